theorem dX8_canBe_161 : decode cX8_canBe 161 = .ok (.if_icmp .ne 7, 3) := by decide +kernel
theorem dX8_canBe_164 : decode cX8_canBe 164 = .ok (.iconst 1, 1) := by decide +kernel
theorem dX8_canBe_165 : decode cX8_canBe 165 = .ok (.goto 4, 3) := by decide +kernel
theorem dX8_canBe_168 : decode cX8_canBe 168 = .ok (.iconst 0, 1) := by decide +kernel
theorem dX8_canBe_169 : decode cX8_canBe 169 = .ok (.ireturn, 1) := by decide +kernel
theorem dX8_canBe_170 : decode cX8_canBe 170 = .ok (.iconst 0, 1) := by decide +kernel
theorem dX8_canBe_171 : decode cX8_canBe 171 = .ok (.ireturn, 1) := by decide +kernel
theorem dX8_isCellSo_0 : decode cX8_isCellSo 0 = .ok (.iload_n 1, 1) := by decide +kernel
theorem dX8_isCellSo_1 : decode cX8_isCellSo 1 = .ok (.bipush 10, 2) := by decide +kernel
theorem dX8_isCellSo_3 : decode cX8_isCellSo 3 = .ok (.idiv, 1) := by decide +kernel
theorem dX8_isCellSo_4 : decode cX8_isCellSo 4 = .ok (.istore 4, 2) := by decide +kernel
theorem dX8_isCellSo_6 : decode cX8_isCellSo 6 = .ok (.iload_n 1, 1) := by decide +kernel
theorem dX8_isCellSo_7 : decode cX8_isCellSo 7 = .ok (.bipush 10, 2) := by decide +kernel
theorem dX8_isCellSo_9 : decode cX8_isCellSo 9 = .ok (.irem, 1) := by decide +kernel
theorem dX8_isCellSo_10 : decode cX8_isCellSo 10 = .ok (.ifCond .ne 9, 3) := by decide +kernel
theorem dX8_isCellSo_13 : decode cX8_isCellSo 13 = .ok (.iload 4, 2) := by decide +kernel
theorem dX8_isCellSo_15 : decode cX8_isCellSo 15 = .ok (.iconst 4, 1) := by decide +kernel
theorem dX8_isCellSo_16 : decode cX8_isCellSo 16 = .ok (.if_icmp .lt 5, 3) := by decide +kernel
theorem dX8_isCellSo_19 : decode cX8_isCellSo 19 = .ok (.iconst 0, 1) := by decide +kernel
theorem dX8_isCellSo_20 : decode cX8_isCellSo 20 = .ok (.ireturn, 1) := by decide +kernel
theorem dX8_isCellSo_21 : decode cX8_isCellSo 21 = .ok (.aload_n 0, 1) := by decide +kernel
theorem dX8_isCellSo_22 : decode cX8_isCellSo 22 = .ok (.getfield 23, 3) := by decide +kernel
theorem dX8_isCellSo_25 : decode cX8_isCellSo 25 = .ok (.iload 4, 2) := by decide +kernel
theorem dX8_isCellSo_27 : decode cX8_isCellSo 27 = .ok (.aload_n 0, 1) := by decide +kernel
theorem dX8_isCellSo_28 : decode cX8_isCellSo 28 = .ok (.getfield 23, 3) := by decide +kernel
theorem dX8_isCellSo_31 : decode cX8_isCellSo 31 = .ok (.getfield 85, 3) := by decide +kernel
theorem dX8_isCellSo_34 : decode cX8_isCellSo 34 = .ok (.bipush (-9), 2) := by decide +kernel
theorem dX8_isCellSo_36 : decode cX8_isCellSo 36 = .ok (.bipush 15, 2) := by decide +kernel
theorem dX8_isCellSo_38 : decode cX8_isCellSo 38 = .ok (.invokestatic 128, 3) := by decide +kernel
theorem dX8_isCellSo_41 : decode cX8_isCellSo 41 = .ok (.istore 5, 2) := by decide +kernel
theorem dX8_isCellSo_43 : decode cX8_isCellSo 43 = .ok (.iload_n 2, 1) := by decide +kernel
theorem dX8_isCellSo_44 : decode cX8_isCellSo 44 = .ok (.ifCond .eq 18, 3) := by decide +kernel
theorem dX8_isCellSo_47 : decode cX8_isCellSo 47 = .ok (.iload 5, 2) := by decide +kernel
theorem dX8_isCellSo_49 : decode cX8_isCellSo 49 = .ok (.bipush 48, 2) := by decide +kernel
theorem dX8_isCellSo_51 : decode cX8_isCellSo 51 = .ok (.if_icmp .ne 7, 3) := by decide +kernel
theorem dX8_isCellSo_54 : decode cX8_isCellSo 54 = .ok (.iconst 1, 1) := by decide +kernel
theorem dX8_isCellSo_55 : decode cX8_isCellSo 55 = .ok (.goto 12, 3) := by decide +kernel
theorem dX8_isCellSo_58 : decode cX8_isCellSo 58 = .ok (.iconst 0, 1) := by decide +kernel
theorem dX8_isCellSo_59 : decode cX8_isCellSo 59 = .ok (.goto 8, 3) := by decide +kernel
theorem dX8_isCellSo_62 : decode cX8_isCellSo 62 = .ok (.iload 5, 2) := by decide +kernel
theorem dX8_isCellSo_64 : decode cX8_isCellSo 64 = .ok (.invokestatic 134, 3) := by decide +kernel
theorem dX8_isCellSo_67 : decode cX8_isCellSo 67 = .ok (.istore 6, 2) := by decide +kernel
theorem dX8_isCellSo_69 : decode cX8_isCellSo 69 = .ok (.iload 6, 2) := by decide +kernel
theorem dX8_isCellSo_71 : decode cX8_isCellSo 71 = .ok (.iload_n 3, 1) := by decide +kernel
theorem dX8_isCellSo_72 : decode cX8_isCellSo 72 = .ok (.if_icmp .ne 7, 3) := by decide +kernel
theorem dX8_isCellSo_75 : decode cX8_isCellSo 75 = .ok (.iconst 1, 1) := by decide +kernel
theorem dX8_isCellSo_76 : decode cX8_isCellSo 76 = .ok (.goto 4, 3) := by decide +kernel
theorem dX8_isCellSo_79 : decode cX8_isCellSo 79 = .ok (.iconst 0, 1) := by decide +kernel
theorem dX8_isCellSo_80 : decode cX8_isCellSo 80 = .ok (.ireturn, 1) := by decide +kernel
theorem dX8_areFeasible_0 : decode cX8_areFeasible 0 = .ok (.aload_n 0, 1) := by decide +kernel
theorem dX8_areFeasible_1 : decode cX8_areFeasible 1 = .ok (.getfield 51, 3) := by decide +kernel
theorem dX8_areFeasible_4 : decode cX8_areFeasible 4 = .ok (.aload_n 0, 1) := by decide +kernel
theorem dX8_areFeasible_5 : decode cX8_areFeasible 5 = .ok (.getfield 23, 3) := by decide +kernel
theorem dX8_areFeasible_8 : decode cX8_areFeasible 8 = .ok (.invokevirtual 169, 3) := by decide +kernel
theorem dX8_areFeasible_11 : decode cX8_areFeasible 11 = .ok (.aload_n 0, 1) := by decide +kernel
theorem dX8_areFeasible_12 : decode cX8_areFeasible 12 = .ok (.getfield 51, 3) := by decide +kernel
theorem dX8_areFeasible_15 : decode cX8_areFeasible 15 = .ok (.invokevirtual 260, 3) := by decide +kernel
theorem dX8_areFeasible_18 : decode cX8_areFeasible 18 = .ok (.iload_n 1, 1) := by decide +kernel
theorem dX8_areFeasible_19 : decode cX8_areFeasible 19 = .ok (.if_icmp .lt 7, 3) := by decide +kernel
theorem dX8_areFeasible_22 : decode cX8_areFeasible 22 = .ok (.iconst 1, 1) := by decide +kernel
theorem dX8_areFeasible_23 : decode cX8_areFeasible 23 = .ok (.goto 4, 3) := by decide +kernel
theorem dX8_areFeasible_26 : decode cX8_areFeasible 26 = .ok (.iconst 0, 1) := by decide +kernel
theorem dX8_areFeasible_27 : decode cX8_areFeasible 27 = .ok (.ireturn, 1) := by decide +kernel
theorem dX9_init_0 : decode cX9_init 0 = .ok (.aload_n 0, 1) := by decide +kernel
theorem dX9_init_1 : decode cX9_init 1 = .ok (.invokespecial 1, 3) := by decide +kernel
theorem dX9_init_4 : decode cX9_init 4 = .ok (.aload_n 0, 1) := by decide +kernel
theorem dX9_init_5 : decode cX9_init 5 = .ok (.iconst 4, 1) := by decide +kernel
theorem dX9_init_6 : decode cX9_init 6 = .ok (.newarray .int, 2) := by decide +kernel
theorem dX9_init_8 : decode cX9_init 8 = .ok (.putfield 7, 3) := by decide +kernel
theorem dX9_init_11 : decode cX9_init 11 = .ok (.aload_n 0, 1) := by decide +kernel
theorem dX9_init_12 : decode cX9_init 12 = .ok (.iconst 4, 1) := by decide +kernel
theorem dX9_init_13 : decode cX9_init 13 = .ok (.newarray .int, 2) := by decide +kernel
theorem dX9_init_15 : decode cX9_init 15 = .ok (.putfield 13, 3) := by decide +kernel
theorem dX9_init_18 : decode cX9_init 18 = .ok (.aload_n 0, 1) := by decide +kernel
theorem dX9_init_19 : decode cX9_init 19 = .ok (.bipush 42, 2) := by decide +kernel
theorem dX9_init_21 : decode cX9_init 21 = .ok (.newarray .int, 2) := by decide +kernel
theorem dX9_init_23 : decode cX9_init 23 = .ok (.putfield 16, 3) := by decide +kernel
theorem dX9_init_26 : decode cX9_init 26 = .ok (.aload_n 0, 1) := by decide +kernel
theorem dX9_init_27 : decode cX9_init 27 = .ok (.bipush 64, 2) := by decide +kernel
theorem dX9_init_29 : decode cX9_init 29 = .ok (.newarray .int, 2) := by decide +kernel
theorem dX9_init_31 : decode cX9_init 31 = .ok (.putfield 19, 3) := by decide +kernel
theorem dX9_init_34 : decode cX9_init 34 = .ok (.aload_n 0, 1) := by decide +kernel
theorem dX9_init_35 : decode cX9_init 35 = .ok (.bipush 21, 2) := by decide +kernel
theorem dX9_init_37 : decode cX9_init 37 = .ok (.newarray .int, 2) := by decide +kernel
theorem dX9_init_39 : decode cX9_init 39 = .ok (.putfield 22, 3) := by decide +kernel
theorem dX9_init_42 : decode cX9_init 42 = .ok (.aload_n 0, 1) := by decide +kernel
theorem dX9_init_43 : decode cX9_init 43 = .ok (.bipush 20, 2) := by decide +kernel
theorem dX9_init_45 : decode cX9_init 45 = .ok (.newarray .int, 2) := by decide +kernel
theorem dX9_init_47 : decode cX9_init 47 = .ok (.putfield 25, 3) := by decide +kernel
theorem dX9_init_50 : decode cX9_init 50 = .ok (.aload_n 0, 1) := by decide +kernel
theorem dX9_init_51 : decode cX9_init 51 = .ok (.bipush 20, 2) := by decide +kernel
theorem dX9_init_53 : decode cX9_init 53 = .ok (.newarray .int, 2) := by decide +kernel
theorem dX9_init_55 : decode cX9_init 55 = .ok (.putfield 28, 3) := by decide +kernel
theorem dX9_init_58 : decode cX9_init 58 = .ok (.aload_n 0, 1) := by decide +kernel
theorem dX9_init_59 : decode cX9_init 59 = .ok (.sipush 294, 3) := by decide +kernel
theorem dX9_init_62 : decode cX9_init 62 = .ok (.newarray .int, 2) := by decide +kernel
theorem dX9_init_64 : decode cX9_init 64 = .ok (.putfield 31, 3) := by decide +kernel
theorem dX9_init_67 : decode cX9_init 67 = .ok (.aload_n 0, 1) := by decide +kernel
theorem dX9_init_68 : decode cX9_init 68 = .ok (.bipush 20, 2) := by decide +kernel
theorem dX9_init_70 : decode cX9_init 70 = .ok (.newarray .int, 2) := by decide +kernel
theorem dX9_init_72 : decode cX9_init 72 = .ok (.putfield 34, 3) := by decide +kernel
theorem dX9_init_75 : decode cX9_init 75 = .ok (.aload_n 0, 1) := by decide +kernel
theorem dX9_init_76 : decode cX9_init 76 = .ok (.bipush 80, 2) := by decide +kernel
theorem dX9_init_78 : decode cX9_init 78 = .ok (.newarray .int, 2) := by decide +kernel
theorem dX9_init_80 : decode cX9_init 80 = .ok (.putfield 37, 3) := by decide +kernel
theorem dX9_init_83 : decode cX9_init 83 = .ok (.aload_n 0, 1) := by decide +kernel
theorem dX9_init_84 : decode cX9_init 84 = .ok (.bipush 80, 2) := by decide +kernel
theorem dX9_init_86 : decode cX9_init 86 = .ok (.newarray .int, 2) := by decide +kernel
theorem dX9_init_88 : decode cX9_init 88 = .ok (.putfield 40, 3) := by decide +kernel
theorem dX9_init_91 : decode cX9_init 91 = .ok (.aload_n 0, 1) := by decide +kernel
theorem dX9_init_92 : decode cX9_init 92 = .ok (.bipush 80, 2) := by decide +kernel
theorem dX9_init_94 : decode cX9_init 94 = .ok (.newarray .int, 2) := by decide +kernel
theorem dX9_init_96 : decode cX9_init 96 = .ok (.putfield 43, 3) := by decide +kernel
theorem dX9_init_99 : decode cX9_init 99 = .ok (.aload_n 0, 1) := by decide +kernel
theorem dX9_init_100 : decode cX9_init 100 = .ok (.iconst 4, 1) := by decide +kernel
theorem dX9_init_101 : decode cX9_init 101 = .ok (.newarray .int, 2) := by decide +kernel
theorem dX9_init_103 : decode cX9_init 103 = .ok (.putfield 46, 3) := by decide +kernel
theorem dX9_init_106 : decode cX9_init 106 = .ok (.aload_n 0, 1) := by decide +kernel
theorem dX9_init_107 : decode cX9_init 107 = .ok (.iconst 5, 1) := by decide +kernel
theorem dX9_init_108 : decode cX9_init 108 = .ok (.newarray .int, 2) := by decide +kernel
theorem dX9_init_110 : decode cX9_init 110 = .ok (.putfield 49, 3) := by decide +kernel
theorem dX9_init_113 : decode cX9_init 113 = .ok (.aload_n 0, 1) := by decide +kernel
theorem dX9_init_114 : decode cX9_init 114 = .ok (.iconst 5, 1) := by decide +kernel
theorem dX9_init_115 : decode cX9_init 115 = .ok (.newarray .int, 2) := by decide +kernel
theorem dX9_init_117 : decode cX9_init 117 = .ok (.putfield 52, 3) := by decide +kernel
theorem dX9_init_120 : decode cX9_init 120 = .ok (.aload_n 0, 1) := by decide +kernel
theorem dX9_init_121 : decode cX9_init 121 = .ok (.iconst 5, 1) := by decide +kernel
theorem dX9_init_122 : decode cX9_init 122 = .ok (.newarray .int, 2) := by decide +kernel
theorem dX9_init_124 : decode cX9_init 124 = .ok (.putfield 55, 3) := by decide +kernel
theorem dX9_init_127 : decode cX9_init 127 = .ok (.aload_n 0, 1) := by decide +kernel
theorem dX9_init_128 : decode cX9_init 128 = .ok (.iconst 5, 1) := by decide +kernel
theorem dX9_init_129 : decode cX9_init 129 = .ok (.newarray .int, 2) := by decide +kernel
theorem dX9_init_131 : decode cX9_init 131 = .ok (.putfield 58, 3) := by decide +kernel
theorem dX9_init_134 : decode cX9_init 134 = .ok (.aload_n 0, 1) := by decide +kernel
theorem dX9_init_135 : decode cX9_init 135 = .ok (.bipush 21, 2) := by decide +kernel
theorem dX9_init_137 : decode cX9_init 137 = .ok (.newarray .int, 2) := by decide +kernel
theorem dX9_init_139 : decode cX9_init 139 = .ok (.putfield 61, 3) := by decide +kernel
theorem dX9_init_142 : decode cX9_init 142 = .ok (.aload_n 0, 1) := by decide +kernel
theorem dX9_init_143 : decode cX9_init 143 = .ok (.bipush 6, 2) := by decide +kernel
theorem dX9_init_145 : decode cX9_init 145 = .ok (.newarray .int, 2) := by decide +kernel
theorem dX9_init_147 : decode cX9_init 147 = .ok (.putfield 64, 3) := by decide +kernel
theorem dX9_init_150 : decode cX9_init 150 = .ok (.aload_n 0, 1) := by decide +kernel
theorem dX9_init_151 : decode cX9_init 151 = .ok (.bipush 6, 2) := by decide +kernel
theorem dX9_init_153 : decode cX9_init 153 = .ok (.newarray .int, 2) := by decide +kernel
theorem dX9_init_155 : decode cX9_init 155 = .ok (.putfield 67, 3) := by decide +kernel
theorem dX9_init_158 : decode cX9_init 158 = .ok (.aload_n 0, 1) := by decide +kernel
theorem dX9_init_159 : decode cX9_init 159 = .ok (.bipush 6, 2) := by decide +kernel
theorem dX9_init_161 : decode cX9_init 161 = .ok (.newarray .int, 2) := by decide +kernel
theorem dX9_init_163 : decode cX9_init 163 = .ok (.putfield 70, 3) := by decide +kernel
theorem dX9_init_166 : decode cX9_init 166 = .ok (.aload_n 0, 1) := by decide +kernel
theorem dX9_init_167 : decode cX9_init 167 = .ok (.iconst 2, 1) := by decide +kernel
theorem dX9_init_168 : decode cX9_init 168 = .ok (.newarray .boolean, 2) := by decide +kernel
theorem dX9_init_170 : decode cX9_init 170 = .ok (.putfield 73, 3) := by decide +kernel
theorem dX9_init_173 : decode cX9_init 173 = .ok (.aload_n 0, 1) := by decide +kernel
theorem dX9_init_174 : decode cX9_init 174 = .ok (.bipush 42, 2) := by decide +kernel
theorem dX9_init_176 : decode cX9_init 176 = .ok (.newarray .int, 2) := by decide +kernel
theorem dX9_init_178 : decode cX9_init 178 = .ok (.putfield 77, 3) := by decide +kernel
theorem dX9_init_181 : decode cX9_init 181 = .ok (.return_, 1) := by decide +kernel
theorem dX9_in_0 : decode cX9_in 0 = .ok (.lload_n 0, 1) := by decide +kernel
theorem dX9_in_1 : decode cX9_in 1 = .ok (.lload_n 2, 1) := by decide +kernel
theorem dX9_in_2 : decode cX9_in 2 = .ok (.lcmp, 1) := by decide +kernel
theorem dX9_in_3 : decode cX9_in 3 = .ok (.ifCond .lt 14, 3) := by decide +kernel
theorem dX9_in_6 : decode cX9_in 6 = .ok (.lload_n 0, 1) := by decide +kernel
theorem dX9_in_7 : decode cX9_in 7 = .ok (.lload 4, 2) := by decide +kernel
theorem dX9_in_9 : decode cX9_in 9 = .ok (.lcmp, 1) := by decide +kernel
theorem dX9_in_10 : decode cX9_in 10 = .ok (.ifCond .gt 7, 3) := by decide +kernel
theorem dX9_in_13 : decode cX9_in 13 = .ok (.iconst 1, 1) := by decide +kernel
theorem dX9_in_14 : decode cX9_in 14 = .ok (.goto 4, 3) := by decide +kernel
theorem dX9_in_17 : decode cX9_in 17 = .ok (.iconst 0, 1) := by decide +kernel
theorem dX9_in_18 : decode cX9_in 18 = .ok (.ireturn, 1) := by decide +kernel
theorem dX9_has_0 : decode cX9_has 0 = .ok (.iload_n 0, 1) := by decide +kernel
theorem dX9_has_1 : decode cX9_has 1 = .ok (.iload_n 1, 1) := by decide +kernel
theorem dX9_has_2 : decode cX9_has 2 = .ok (.ishr, 1) := by decide +kernel
theorem dX9_has_3 : decode cX9_has 3 = .ok (.iconst 1, 1) := by decide +kernel
theorem dX9_has_4 : decode cX9_has 4 = .ok (.iand, 1) := by decide +kernel
theorem dX9_has_5 : decode cX9_has 5 = .ok (.iconst 1, 1) := by decide +kernel
theorem dX9_has_6 : decode cX9_has 6 = .ok (.if_icmp .ne 7, 3) := by decide +kernel
theorem dX9_has_9 : decode cX9_has 9 = .ok (.iconst 1, 1) := by decide +kernel
theorem dX9_has_10 : decode cX9_has 10 = .ok (.goto 4, 3) := by decide +kernel
theorem dX9_has_13 : decode cX9_has 13 = .ok (.iconst 0, 1) := by decide +kernel
theorem dX9_has_14 : decode cX9_has 14 = .ok (.ireturn, 1) := by decide +kernel
theorem dX9_ones_0 : decode cX9_ones 0 = .ok (.iconst 0, 1) := by decide +kernel
theorem dX9_ones_1 : decode cX9_ones 1 = .ok (.istore_n 1, 1) := by decide +kernel
theorem dX9_ones_2 : decode cX9_ones 2 = .ok (.iconst 0, 1) := by decide +kernel
theorem dX9_ones_3 : decode cX9_ones 3 = .ok (.istore_n 2, 1) := by decide +kernel
theorem dX9_ones_4 : decode cX9_ones 4 = .ok (.iload_n 2, 1) := by decide +kernel
theorem dX9_ones_5 : decode cX9_ones 5 = .ok (.bipush 20, 2) := by decide +kernel
theorem dX9_ones_7 : decode cX9_ones 7 = .ok (.if_icmp .ge 17, 3) := by decide +kernel
theorem dX9_ones_10 : decode cX9_ones 10 = .ok (.iload_n 1, 1) := by decide +kernel
theorem dX9_ones_11 : decode cX9_ones 11 = .ok (.iload_n 0, 1) := by decide +kernel
theorem dX9_ones_12 : decode cX9_ones 12 = .ok (.iload_n 2, 1) := by decide +kernel
theorem dX9_ones_13 : decode cX9_ones 13 = .ok (.ishr, 1) := by decide +kernel
theorem dX9_ones_14 : decode cX9_ones 14 = .ok (.iconst 1, 1) := by decide +kernel
theorem dX9_ones_15 : decode cX9_ones 15 = .ok (.iand, 1) := by decide +kernel
theorem dX9_ones_16 : decode cX9_ones 16 = .ok (.iadd, 1) := by decide +kernel
theorem dX9_ones_17 : decode cX9_ones 17 = .ok (.istore_n 1, 1) := by decide +kernel
theorem dX9_ones_18 : decode cX9_ones 18 = .ok (.iinc 2 1, 3) := by decide +kernel
theorem dX9_ones_21 : decode cX9_ones 21 = .ok (.goto (-17), 3) := by decide +kernel
theorem dX9_ones_24 : decode cX9_ones 24 = .ok (.iload_n 1, 1) := by decide +kernel
theorem dX9_ones_25 : decode cX9_ones 25 = .ok (.ireturn, 1) := by decide +kernel
theorem dX9_begin_0 : decode cX9_begin 0 = .ok (.iconst 0, 1) := by decide +kernel
theorem dX9_begin_1 : decode cX9_begin 1 = .ok (.istore_n 1, 1) := by decide +kernel
theorem dX9_begin_2 : decode cX9_begin 2 = .ok (.iload_n 1, 1) := by decide +kernel
theorem dX9_begin_3 : decode cX9_begin 3 = .ok (.iconst 4, 1) := by decide +kernel
theorem dX9_begin_4 : decode cX9_begin 4 = .ok (.if_icmp .ge 23, 3) := by decide +kernel
theorem dX9_begin_7 : decode cX9_begin 7 = .ok (.aload_n 0, 1) := by decide +kernel
theorem dX9_begin_8 : decode cX9_begin 8 = .ok (.getfield 7, 3) := by decide +kernel
theorem dX9_begin_11 : decode cX9_begin 11 = .ok (.iload_n 1, 1) := by decide +kernel
theorem dX9_begin_12 : decode cX9_begin 12 = .ok (.iconst 0, 1) := by decide +kernel
theorem dX9_begin_13 : decode cX9_begin 13 = .ok (.iastore, 1) := by decide +kernel
theorem dX9_begin_14 : decode cX9_begin 14 = .ok (.aload_n 0, 1) := by decide +kernel
theorem dX9_begin_15 : decode cX9_begin 15 = .ok (.getfield 13, 3) := by decide +kernel
theorem dX9_begin_18 : decode cX9_begin 18 = .ok (.iload_n 1, 1) := by decide +kernel
theorem dX9_begin_19 : decode cX9_begin 19 = .ok (.iconst 0, 1) := by decide +kernel
theorem dX9_begin_20 : decode cX9_begin 20 = .ok (.iastore, 1) := by decide +kernel
theorem dX9_begin_21 : decode cX9_begin 21 = .ok (.iinc 1 1, 3) := by decide +kernel
theorem dX9_begin_24 : decode cX9_begin 24 = .ok (.goto (-22), 3) := by decide +kernel
theorem dX9_begin_27 : decode cX9_begin 27 = .ok (.aload_n 0, 1) := by decide +kernel
theorem dX9_begin_28 : decode cX9_begin 28 = .ok (.iconst 1, 1) := by decide +kernel
theorem dX9_begin_29 : decode cX9_begin 29 = .ok (.putfield 80, 3) := by decide +kernel
theorem dX9_begin_32 : decode cX9_begin 32 = .ok (.aload_n 0, 1) := by decide +kernel
theorem dX9_begin_33 : decode cX9_begin 33 = .ok (.iconst 0, 1) := by decide +kernel
theorem dX9_begin_34 : decode cX9_begin 34 = .ok (.putfield 84, 3) := by decide +kernel
theorem dX9_begin_37 : decode cX9_begin 37 = .ok (.return_, 1) := by decide +kernel
theorem dX9_isRunning_0 : decode cX9_isRunning 0 = .ok (.iload_n 1, 1) := by decide +kernel
theorem dX9_isRunning_1 : decode cX9_isRunning 1 = .ok (.i2l, 1) := by decide +kernel
theorem dX9_isRunning_2 : decode cX9_isRunning 2 = .ok (.lconst 0, 1) := by decide +kernel
theorem dX9_isRunning_3 : decode cX9_isRunning 3 = .ok (.ldc2_w 87, 3) := by decide +kernel
theorem dX9_isRunning_6 : decode cX9_isRunning 6 = .ok (.invokestatic 89, 3) := by decide +kernel
theorem dX9_isRunning_9 : decode cX9_isRunning 9 = .ok (.ifCond .eq 29, 3) := by decide +kernel
theorem dX9_isRunning_12 : decode cX9_isRunning 12 = .ok (.aload_n 0, 1) := by decide +kernel
theorem dX9_isRunning_13 : decode cX9_isRunning 13 = .ok (.getfield 80, 3) := by decide +kernel
theorem dX9_isRunning_16 : decode cX9_isRunning 16 = .ok (.iload_n 1, 1) := by decide +kernel
theorem dX9_isRunning_17 : decode cX9_isRunning 17 = .ok (.invokestatic 93, 3) := by decide +kernel
theorem dX9_isRunning_20 : decode cX9_isRunning 20 = .ok (.ifCond .eq 18, 3) := by decide +kernel
theorem dX9_isRunning_23 : decode cX9_isRunning 23 = .ok (.aload_n 0, 1) := by decide +kernel
theorem dX9_isRunning_24 : decode cX9_isRunning 24 = .ok (.getfield 84, 3) := by decide +kernel
theorem dX9_isRunning_27 : decode cX9_isRunning 27 = .ok (.iload_n 1, 1) := by decide +kernel
theorem dX9_isRunning_28 : decode cX9_isRunning 28 = .ok (.invokestatic 93, 3) := by decide +kernel
theorem dX9_isRunning_31 : decode cX9_isRunning 31 = .ok (.ifCond .ne 7, 3) := by decide +kernel
theorem dX9_isRunning_34 : decode cX9_isRunning 34 = .ok (.iconst 1, 1) := by decide +kernel
theorem dX9_isRunning_35 : decode cX9_isRunning 35 = .ok (.goto 4, 3) := by decide +kernel
theorem dX9_isRunning_38 : decode cX9_isRunning 38 = .ok (.iconst 0, 1) := by decide +kernel
theorem dX9_isRunning_39 : decode cX9_isRunning 39 = .ok (.ireturn, 1) := by decide +kernel
theorem dX9_writeHeld_0 : decode cX9_writeHeld 0 = .ok (.aload_n 0, 1) := by decide +kernel
theorem dX9_writeHeld_1 : decode cX9_writeHeld 1 = .ok (.getfield 7, 3) := by decide +kernel
theorem dX9_writeHeld_4 : decode cX9_writeHeld 4 = .ok (.iconst 0, 1) := by decide +kernel
theorem dX9_writeHeld_5 : decode cX9_writeHeld 5 = .ok (.iaload, 1) := by decide +kernel
theorem dX9_writeHeld_6 : decode cX9_writeHeld 6 = .ok (.aload_n 0, 1) := by decide +kernel
theorem dX9_writeHeld_7 : decode cX9_writeHeld 7 = .ok (.getfield 7, 3) := by decide +kernel
theorem dX9_writeHeld_10 : decode cX9_writeHeld 10 = .ok (.iconst 1, 1) := by decide +kernel
theorem dX9_writeHeld_11 : decode cX9_writeHeld 11 = .ok (.iaload, 1) := by decide +kernel
theorem dX9_writeHeld_12 : decode cX9_writeHeld 12 = .ok (.ior, 1) := by decide +kernel
theorem dX9_writeHeld_13 : decode cX9_writeHeld 13 = .ok (.aload_n 0, 1) := by decide +kernel
theorem dX9_writeHeld_14 : decode cX9_writeHeld 14 = .ok (.getfield 7, 3) := by decide +kernel
theorem dX9_writeHeld_17 : decode cX9_writeHeld 17 = .ok (.iconst 2, 1) := by decide +kernel
theorem dX9_writeHeld_18 : decode cX9_writeHeld 18 = .ok (.iaload, 1) := by decide +kernel
theorem dX9_writeHeld_19 : decode cX9_writeHeld 19 = .ok (.ior, 1) := by decide +kernel
theorem dX9_writeHeld_20 : decode cX9_writeHeld 20 = .ok (.aload_n 0, 1) := by decide +kernel
theorem dX9_writeHeld_21 : decode cX9_writeHeld 21 = .ok (.getfield 7, 3) := by decide +kernel
theorem dX9_writeHeld_24 : decode cX9_writeHeld 24 = .ok (.iconst 3, 1) := by decide +kernel
theorem dX9_writeHeld_25 : decode cX9_writeHeld 25 = .ok (.iaload, 1) := by decide +kernel
theorem dX9_writeHeld_26 : decode cX9_writeHeld 26 = .ok (.ior, 1) := by decide +kernel
theorem dX9_writeHeld_27 : decode cX9_writeHeld 27 = .ok (.ireturn, 1) := by decide +kernel
theorem dX9_readHeld_0 : decode cX9_readHeld 0 = .ok (.aload_n 0, 1) := by decide +kernel
theorem dX9_readHeld_1 : decode cX9_readHeld 1 = .ok (.getfield 13, 3) := by decide +kernel
theorem dX9_readHeld_4 : decode cX9_readHeld 4 = .ok (.iconst 0, 1) := by decide +kernel
theorem dX9_readHeld_5 : decode cX9_readHeld 5 = .ok (.iaload, 1) := by decide +kernel
theorem dX9_readHeld_6 : decode cX9_readHeld 6 = .ok (.aload_n 0, 1) := by decide +kernel
theorem dX9_readHeld_7 : decode cX9_readHeld 7 = .ok (.getfield 13, 3) := by decide +kernel
theorem dX9_readHeld_10 : decode cX9_readHeld 10 = .ok (.iconst 1, 1) := by decide +kernel
theorem dX9_readHeld_11 : decode cX9_readHeld 11 = .ok (.iaload, 1) := by decide +kernel
theorem dX9_readHeld_12 : decode cX9_readHeld 12 = .ok (.ior, 1) := by decide +kernel
theorem dX9_readHeld_13 : decode cX9_readHeld 13 = .ok (.aload_n 0, 1) := by decide +kernel
theorem dX9_readHeld_14 : decode cX9_readHeld 14 = .ok (.getfield 13, 3) := by decide +kernel
theorem dX9_readHeld_17 : decode cX9_readHeld 17 = .ok (.iconst 2, 1) := by decide +kernel
theorem dX9_readHeld_18 : decode cX9_readHeld 18 = .ok (.iaload, 1) := by decide +kernel
theorem dX9_readHeld_19 : decode cX9_readHeld 19 = .ok (.ior, 1) := by decide +kernel
theorem dX9_readHeld_20 : decode cX9_readHeld 20 = .ok (.aload_n 0, 1) := by decide +kernel
theorem dX9_readHeld_21 : decode cX9_readHeld 21 = .ok (.getfield 13, 3) := by decide +kernel
theorem dX9_readHeld_24 : decode cX9_readHeld 24 = .ok (.iconst 3, 1) := by decide +kernel
theorem dX9_readHeld_25 : decode cX9_readHeld 25 = .ok (.iaload, 1) := by decide +kernel
theorem dX9_readHeld_26 : decode cX9_readHeld 26 = .ok (.ior, 1) := by decide +kernel
theorem dX9_readHeld_27 : decode cX9_readHeld 27 = .ok (.ireturn, 1) := by decide +kernel
theorem dX9_isFree_0 : decode cX9_isFree 0 = .ok (.iload_n 2, 1) := by decide +kernel
theorem dX9_isFree_1 : decode cX9_isFree 1 = .ok (.ifCond .ne 25, 3) := by decide +kernel
theorem dX9_isFree_4 : decode cX9_isFree 4 = .ok (.aload_n 0, 1) := by decide +kernel
theorem dX9_isFree_5 : decode cX9_isFree 5 = .ok (.invokevirtual 97, 3) := by decide +kernel
theorem dX9_isFree_8 : decode cX9_isFree 8 = .ok (.aload_n 0, 1) := by decide +kernel
theorem dX9_isFree_9 : decode cX9_isFree 9 = .ok (.invokevirtual 101, 3) := by decide +kernel
theorem dX9_isFree_12 : decode cX9_isFree 12 = .ok (.ior, 1) := by decide +kernel
theorem dX9_isFree_13 : decode cX9_isFree 13 = .ok (.iload_n 3, 1) := by decide +kernel
theorem dX9_isFree_14 : decode cX9_isFree 14 = .ok (.invokestatic 93, 3) := by decide +kernel
theorem dX9_isFree_17 : decode cX9_isFree 17 = .ok (.ifCond .ne 7, 3) := by decide +kernel
theorem dX9_isFree_20 : decode cX9_isFree 20 = .ok (.iconst 1, 1) := by decide +kernel
theorem dX9_isFree_21 : decode cX9_isFree 21 = .ok (.goto 4, 3) := by decide +kernel
theorem dX9_isFree_24 : decode cX9_isFree 24 = .ok (.iconst 0, 1) := by decide +kernel
theorem dX9_isFree_25 : decode cX9_isFree 25 = .ok (.ireturn, 1) := by decide +kernel
theorem dX9_isFree_26 : decode cX9_isFree 26 = .ok (.iload_n 2, 1) := by decide +kernel
theorem dX9_isFree_27 : decode cX9_isFree 27 = .ok (.iconst 1, 1) := by decide +kernel
theorem dX9_isFree_28 : decode cX9_isFree 28 = .ok (.if_icmp .ne 27, 3) := by decide +kernel
theorem dX9_isFree_31 : decode cX9_isFree 31 = .ok (.aload_n 0, 1) := by decide +kernel
theorem dX9_isFree_32 : decode cX9_isFree 32 = .ok (.invokevirtual 97, 3) := by decide +kernel
theorem dX9_isFree_35 : decode cX9_isFree 35 = .ok (.aload_n 0, 1) := by decide +kernel
theorem dX9_isFree_36 : decode cX9_isFree 36 = .ok (.getfield 13, 3) := by decide +kernel
theorem dX9_isFree_39 : decode cX9_isFree 39 = .ok (.iload_n 1, 1) := by decide +kernel
theorem dX9_isFree_40 : decode cX9_isFree 40 = .ok (.iaload, 1) := by decide +kernel
theorem dX9_isFree_41 : decode cX9_isFree 41 = .ok (.ior, 1) := by decide +kernel
theorem dX9_isFree_42 : decode cX9_isFree 42 = .ok (.iload_n 3, 1) := by decide +kernel
theorem dX9_isFree_43 : decode cX9_isFree 43 = .ok (.invokestatic 93, 3) := by decide +kernel
theorem dX9_isFree_46 : decode cX9_isFree 46 = .ok (.ifCond .ne 7, 3) := by decide +kernel
theorem dX9_isFree_49 : decode cX9_isFree 49 = .ok (.iconst 1, 1) := by decide +kernel
theorem dX9_isFree_50 : decode cX9_isFree 50 = .ok (.goto 4, 3) := by decide +kernel
theorem dX9_isFree_53 : decode cX9_isFree 53 = .ok (.iconst 0, 1) := by decide +kernel
theorem dX9_isFree_54 : decode cX9_isFree 54 = .ok (.ireturn, 1) := by decide +kernel
theorem dX9_isFree_55 : decode cX9_isFree 55 = .ok (.aload_n 0, 1) := by decide +kernel
theorem dX9_isFree_56 : decode cX9_isFree 56 = .ok (.getfield 7, 3) := by decide +kernel
theorem dX9_isFree_59 : decode cX9_isFree 59 = .ok (.iload_n 1, 1) := by decide +kernel
theorem dX9_isFree_60 : decode cX9_isFree 60 = .ok (.iaload, 1) := by decide +kernel
theorem dX9_isFree_61 : decode cX9_isFree 61 = .ok (.aload_n 0, 1) := by decide +kernel
theorem dX9_isFree_62 : decode cX9_isFree 62 = .ok (.getfield 13, 3) := by decide +kernel
theorem dX9_isFree_65 : decode cX9_isFree 65 = .ok (.iload_n 1, 1) := by decide +kernel
theorem dX9_isFree_66 : decode cX9_isFree 66 = .ok (.iaload, 1) := by decide +kernel
theorem dX9_isFree_67 : decode cX9_isFree 67 = .ok (.ior, 1) := by decide +kernel
theorem dX9_isFree_68 : decode cX9_isFree 68 = .ok (.iload_n 3, 1) := by decide +kernel
theorem dX9_isFree_69 : decode cX9_isFree 69 = .ok (.invokestatic 93, 3) := by decide +kernel
theorem dX9_isFree_72 : decode cX9_isFree 72 = .ok (.ireturn, 1) := by decide +kernel
theorem dX9_mayBe_0 : decode cX9_mayBe 0 = .ok (.iload_n 3, 1) := by decide +kernel
theorem dX9_mayBe_1 : decode cX9_mayBe 1 = .ok (.i2l, 1) := by decide +kernel
theorem dX9_mayBe_2 : decode cX9_mayBe 2 = .ok (.lconst 0, 1) := by decide +kernel
theorem dX9_mayBe_3 : decode cX9_mayBe 3 = .ok (.ldc2_w 87, 3) := by decide +kernel
theorem dX9_mayBe_6 : decode cX9_mayBe 6 = .ok (.invokestatic 89, 3) := by decide +kernel
theorem dX9_mayBe_9 : decode cX9_mayBe 9 = .ok (.ifCond .ne 5, 3) := by decide +kernel
theorem dX9_mayBe_12 : decode cX9_mayBe 12 = .ok (.iconst 0, 1) := by decide +kernel
theorem dX9_mayBe_13 : decode cX9_mayBe 13 = .ok (.ireturn, 1) := by decide +kernel
theorem dX9_mayBe_14 : decode cX9_mayBe 14 = .ok (.iload_n 2, 1) := by decide +kernel
theorem dX9_mayBe_15 : decode cX9_mayBe 15 = .ok (.iconst 3, 1) := by decide +kernel
theorem dX9_mayBe_16 : decode cX9_mayBe 16 = .ok (.if_icmp .ge 11, 3) := by decide +kernel
theorem dX9_mayBe_19 : decode cX9_mayBe 19 = .ok (.aload_n 0, 1) := by decide +kernel
theorem dX9_mayBe_20 : decode cX9_mayBe 20 = .ok (.iload_n 1, 1) := by decide +kernel
theorem dX9_mayBe_21 : decode cX9_mayBe 21 = .ok (.iload_n 2, 1) := by decide +kernel
theorem dX9_mayBe_22 : decode cX9_mayBe 22 = .ok (.iload_n 3, 1) := by decide +kernel
theorem dX9_mayBe_23 : decode cX9_mayBe 23 = .ok (.invokevirtual 104, 3) := by decide +kernel
theorem dX9_mayBe_26 : decode cX9_mayBe 26 = .ok (.ireturn, 1) := by decide +kernel
theorem dX9_mayBe_27 : decode cX9_mayBe 27 = .ok (.iload_n 2, 1) := by decide +kernel
theorem dX9_mayBe_28 : decode cX9_mayBe 28 = .ok (.iconst 5, 1) := by decide +kernel
theorem dX9_mayBe_29 : decode cX9_mayBe 29 = .ok (.if_icmp .ge 5, 3) := by decide +kernel
theorem dX9_mayBe_32 : decode cX9_mayBe 32 = .ok (.iconst 1, 1) := by decide +kernel
theorem dX9_mayBe_33 : decode cX9_mayBe 33 = .ok (.ireturn, 1) := by decide +kernel
theorem dX9_mayBe_34 : decode cX9_mayBe 34 = .ok (.iload_n 2, 1) := by decide +kernel
theorem dX9_mayBe_35 : decode cX9_mayBe 35 = .ok (.iconst 5, 1) := by decide +kernel
theorem dX9_mayBe_36 : decode cX9_mayBe 36 = .ok (.if_icmp .ne 20, 3) := by decide +kernel
theorem dX9_mayBe_39 : decode cX9_mayBe 39 = .ok (.aload_n 0, 1) := by decide +kernel
theorem dX9_mayBe_40 : decode cX9_mayBe 40 = .ok (.getfield 80, 3) := by decide +kernel
theorem dX9_mayBe_43 : decode cX9_mayBe 43 = .ok (.iload_n 3, 1) := by decide +kernel
theorem dX9_mayBe_44 : decode cX9_mayBe 44 = .ok (.invokestatic 93, 3) := by decide +kernel
theorem dX9_mayBe_47 : decode cX9_mayBe 47 = .ok (.ifCond .ne 7, 3) := by decide +kernel
theorem dX9_mayBe_50 : decode cX9_mayBe 50 = .ok (.iconst 1, 1) := by decide +kernel
theorem dX9_mayBe_51 : decode cX9_mayBe 51 = .ok (.goto 4, 3) := by decide +kernel
theorem dX9_mayBe_54 : decode cX9_mayBe 54 = .ok (.iconst 0, 1) := by decide +kernel
theorem dX9_mayBe_55 : decode cX9_mayBe 55 = .ok (.ireturn, 1) := by decide +kernel
theorem dX9_mayBe_56 : decode cX9_mayBe 56 = .ok (.iload_n 3, 1) := by decide +kernel
theorem dX9_mayBe_57 : decode cX9_mayBe 57 = .ok (.iload_n 1, 1) := by decide +kernel
theorem dX9_mayBe_58 : decode cX9_mayBe 58 = .ok (.if_icmp .eq 31, 3) := by decide +kernel
theorem dX9_mayBe_61 : decode cX9_mayBe 61 = .ok (.aload_n 0, 1) := by decide +kernel
theorem dX9_mayBe_62 : decode cX9_mayBe 62 = .ok (.iload_n 3, 1) := by decide +kernel
theorem dX9_mayBe_63 : decode cX9_mayBe 63 = .ok (.invokevirtual 108, 3) := by decide +kernel
theorem dX9_mayBe_66 : decode cX9_mayBe 66 = .ok (.ifCond .eq 23, 3) := by decide +kernel
theorem dX9_mayBe_69 : decode cX9_mayBe 69 = .ok (.aload_n 0, 1) := by decide +kernel
theorem dX9_mayBe_70 : decode cX9_mayBe 70 = .ok (.getfield 7, 3) := by decide +kernel
theorem dX9_mayBe_73 : decode cX9_mayBe 73 = .ok (.iload_n 3, 1) := by decide +kernel
theorem dX9_mayBe_74 : decode cX9_mayBe 74 = .ok (.iaload, 1) := by decide +kernel
theorem dX9_mayBe_75 : decode cX9_mayBe 75 = .ok (.aload_n 0, 1) := by decide +kernel
theorem dX9_mayBe_76 : decode cX9_mayBe 76 = .ok (.getfield 13, 3) := by decide +kernel
theorem dX9_mayBe_79 : decode cX9_mayBe 79 = .ok (.iload_n 3, 1) := by decide +kernel
theorem dX9_mayBe_80 : decode cX9_mayBe 80 = .ok (.iaload, 1) := by decide +kernel
theorem dX9_mayBe_81 : decode cX9_mayBe 81 = .ok (.ior, 1) := by decide +kernel
theorem dX9_mayBe_82 : decode cX9_mayBe 82 = .ok (.ifCond .ne 7, 3) := by decide +kernel
theorem dX9_mayBe_85 : decode cX9_mayBe 85 = .ok (.iconst 1, 1) := by decide +kernel
theorem dX9_mayBe_86 : decode cX9_mayBe 86 = .ok (.goto 4, 3) := by decide +kernel
theorem dX9_mayBe_89 : decode cX9_mayBe 89 = .ok (.iconst 0, 1) := by decide +kernel
theorem dX9_mayBe_90 : decode cX9_mayBe 90 = .ok (.ireturn, 1) := by decide +kernel
theorem dX9_mayAny_0 : decode cX9_mayAny 0 = .ok (.aload_n 0, 1) := by decide +kernel
theorem dX9_mayAny_1 : decode cX9_mayAny 1 = .ok (.iload_n 1, 1) := by decide +kernel
theorem dX9_mayAny_2 : decode cX9_mayAny 2 = .ok (.iload_n 2, 1) := by decide +kernel
theorem dX9_mayAny_3 : decode cX9_mayAny 3 = .ok (.iconst 0, 1) := by decide +kernel
theorem dX9_mayAny_4 : decode cX9_mayAny 4 = .ok (.invokevirtual 112, 3) := by decide +kernel
theorem dX9_mayAny_7 : decode cX9_mayAny 7 = .ok (.ifCond .ne 33, 3) := by decide +kernel
theorem dX9_mayAny_10 : decode cX9_mayAny 10 = .ok (.aload_n 0, 1) := by decide +kernel
theorem dX9_mayAny_11 : decode cX9_mayAny 11 = .ok (.iload_n 1, 1) := by decide +kernel
theorem dX9_mayAny_12 : decode cX9_mayAny 12 = .ok (.iload_n 2, 1) := by decide +kernel
theorem dX9_mayAny_13 : decode cX9_mayAny 13 = .ok (.iconst 1, 1) := by decide +kernel
theorem dX9_mayAny_14 : decode cX9_mayAny 14 = .ok (.invokevirtual 112, 3) := by decide +kernel
theorem dX9_mayAny_17 : decode cX9_mayAny 17 = .ok (.ifCond .ne 23, 3) := by decide +kernel
theorem dX9_mayAny_20 : decode cX9_mayAny 20 = .ok (.aload_n 0, 1) := by decide +kernel
theorem dX9_mayAny_21 : decode cX9_mayAny 21 = .ok (.iload_n 1, 1) := by decide +kernel
theorem dX9_mayAny_22 : decode cX9_mayAny 22 = .ok (.iload_n 2, 1) := by decide +kernel
theorem dX9_mayAny_23 : decode cX9_mayAny 23 = .ok (.iconst 2, 1) := by decide +kernel
theorem dX9_mayAny_24 : decode cX9_mayAny 24 = .ok (.invokevirtual 112, 3) := by decide +kernel
theorem dX9_mayAny_27 : decode cX9_mayAny 27 = .ok (.ifCond .ne 13, 3) := by decide +kernel
theorem dX9_mayAny_30 : decode cX9_mayAny 30 = .ok (.aload_n 0, 1) := by decide +kernel
theorem dX9_mayAny_31 : decode cX9_mayAny 31 = .ok (.iload_n 1, 1) := by decide +kernel
theorem dX9_mayAny_32 : decode cX9_mayAny 32 = .ok (.iload_n 2, 1) := by decide +kernel
theorem dX9_mayAny_33 : decode cX9_mayAny 33 = .ok (.iconst 3, 1) := by decide +kernel
theorem dX9_mayAny_34 : decode cX9_mayAny 34 = .ok (.invokevirtual 112, 3) := by decide +kernel
theorem dX9_mayAny_37 : decode cX9_mayAny 37 = .ok (.ifCond .eq 7, 3) := by decide +kernel
theorem dX9_mayAny_40 : decode cX9_mayAny 40 = .ok (.iconst 1, 1) := by decide +kernel
theorem dX9_mayAny_41 : decode cX9_mayAny 41 = .ok (.goto 4, 3) := by decide +kernel
theorem dX9_mayAny_44 : decode cX9_mayAny 44 = .ok (.iconst 0, 1) := by decide +kernel
theorem dX9_mayAny_45 : decode cX9_mayAny 45 = .ok (.ireturn, 1) := by decide +kernel
theorem dX9_go_0 : decode cX9_go 0 = .ok (.iconst 1, 1) := by decide +kernel
theorem dX9_go_1 : decode cX9_go 1 = .ok (.iload_n 3, 1) := by decide +kernel
theorem dX9_go_2 : decode cX9_go 2 = .ok (.ishl, 1) := by decide +kernel
theorem dX9_go_3 : decode cX9_go 3 = .ok (.istore 4, 2) := by decide +kernel
theorem dX9_go_5 : decode cX9_go 5 = .ok (.iload_n 2, 1) := by decide +kernel
theorem dX9_go_6 : decode cX9_go 6 = .ok (.tableswitch 127 0 6 #[42, 56, 70, 127, 127, 99, 113], 42) := by decide +kernel
theorem dX9_go_48 : decode cX9_go 48 = .ok (.aload_n 0, 1) := by decide +kernel
theorem dX9_go_49 : decode cX9_go 49 = .ok (.getfield 7, 3) := by decide +kernel
theorem dX9_go_52 : decode cX9_go 52 = .ok (.iload_n 1, 1) := by decide +kernel
theorem dX9_go_53 : decode cX9_go 53 = .ok (.dup2, 1) := by decide +kernel
theorem dX9_go_54 : decode cX9_go 54 = .ok (.iaload, 1) := by decide +kernel
theorem dX9_go_55 : decode cX9_go 55 = .ok (.iload 4, 2) := by decide +kernel
theorem dX9_go_57 : decode cX9_go 57 = .ok (.ior, 1) := by decide +kernel
theorem dX9_go_58 : decode cX9_go 58 = .ok (.iastore, 1) := by decide +kernel
theorem dX9_go_59 : decode cX9_go 59 = .ok (.goto 74, 3) := by decide +kernel
theorem dX9_go_62 : decode cX9_go 62 = .ok (.aload_n 0, 1) := by decide +kernel
theorem dX9_go_63 : decode cX9_go 63 = .ok (.getfield 13, 3) := by decide +kernel
theorem dX9_go_66 : decode cX9_go 66 = .ok (.iload_n 1, 1) := by decide +kernel
theorem dX9_go_67 : decode cX9_go 67 = .ok (.dup2, 1) := by decide +kernel
theorem dX9_go_68 : decode cX9_go 68 = .ok (.iaload, 1) := by decide +kernel
theorem dX9_go_69 : decode cX9_go 69 = .ok (.iload 4, 2) := by decide +kernel
theorem dX9_go_71 : decode cX9_go 71 = .ok (.ior, 1) := by decide +kernel
theorem dX9_go_72 : decode cX9_go 72 = .ok (.iastore, 1) := by decide +kernel
theorem dX9_go_73 : decode cX9_go 73 = .ok (.goto 60, 3) := by decide +kernel
theorem dX9_go_76 : decode cX9_go 76 = .ok (.aload_n 0, 1) := by decide +kernel
theorem dX9_go_77 : decode cX9_go 77 = .ok (.getfield 7, 3) := by decide +kernel
theorem dX9_go_80 : decode cX9_go 80 = .ok (.iload_n 1, 1) := by decide +kernel
theorem dX9_go_81 : decode cX9_go 81 = .ok (.dup2, 1) := by decide +kernel
theorem dX9_go_82 : decode cX9_go 82 = .ok (.iaload, 1) := by decide +kernel
theorem dX9_go_83 : decode cX9_go 83 = .ok (.iload 4, 2) := by decide +kernel
theorem dX9_go_85 : decode cX9_go 85 = .ok (.iconst (-1), 1) := by decide +kernel
theorem dX9_go_86 : decode cX9_go 86 = .ok (.ixor, 1) := by decide +kernel
theorem dX9_go_87 : decode cX9_go 87 = .ok (.iand, 1) := by decide +kernel
theorem dX9_go_88 : decode cX9_go 88 = .ok (.iastore, 1) := by decide +kernel
theorem dX9_go_89 : decode cX9_go 89 = .ok (.aload_n 0, 1) := by decide +kernel
theorem dX9_go_90 : decode cX9_go 90 = .ok (.getfield 13, 3) := by decide +kernel
theorem dX9_go_93 : decode cX9_go 93 = .ok (.iload_n 1, 1) := by decide +kernel
theorem dX9_go_94 : decode cX9_go 94 = .ok (.dup2, 1) := by decide +kernel
theorem dX9_go_95 : decode cX9_go 95 = .ok (.iaload, 1) := by decide +kernel
theorem dX9_go_96 : decode cX9_go 96 = .ok (.iload 4, 2) := by decide +kernel
theorem dX9_go_98 : decode cX9_go 98 = .ok (.iconst (-1), 1) := by decide +kernel
theorem dX9_go_99 : decode cX9_go 99 = .ok (.ixor, 1) := by decide +kernel
theorem dX9_go_100 : decode cX9_go 100 = .ok (.iand, 1) := by decide +kernel
theorem dX9_go_101 : decode cX9_go 101 = .ok (.iastore, 1) := by decide +kernel
theorem dX9_go_102 : decode cX9_go 102 = .ok (.goto 31, 3) := by decide +kernel
theorem dX9_go_105 : decode cX9_go 105 = .ok (.aload_n 0, 1) := by decide +kernel
theorem dX9_go_106 : decode cX9_go 106 = .ok (.dup, 1) := by decide +kernel
theorem dX9_go_107 : decode cX9_go 107 = .ok (.getfield 80, 3) := by decide +kernel
theorem dX9_go_110 : decode cX9_go 110 = .ok (.iload 4, 2) := by decide +kernel
theorem dX9_go_112 : decode cX9_go 112 = .ok (.ior, 1) := by decide +kernel
theorem dX9_go_113 : decode cX9_go 113 = .ok (.putfield 80, 3) := by decide +kernel
theorem dX9_go_116 : decode cX9_go 116 = .ok (.goto 17, 3) := by decide +kernel
theorem dX9_go_119 : decode cX9_go 119 = .ok (.aload_n 0, 1) := by decide +kernel
theorem dX9_go_120 : decode cX9_go 120 = .ok (.dup, 1) := by decide +kernel
theorem dX9_go_121 : decode cX9_go 121 = .ok (.getfield 84, 3) := by decide +kernel
theorem dX9_go_124 : decode cX9_go 124 = .ok (.iload 4, 2) := by decide +kernel
theorem dX9_go_126 : decode cX9_go 126 = .ok (.ior, 1) := by decide +kernel
theorem dX9_go_127 : decode cX9_go 127 = .ok (.putfield 84, 3) := by decide +kernel
theorem dX9_go_130 : decode cX9_go 130 = .ok (.goto 3, 3) := by decide +kernel
theorem dX9_go_133 : decode cX9_go 133 = .ok (.return_, 1) := by decide +kernel
theorem dX9_many_0 : decode cX9_many 0 = .ok (.aload_n 0, 1) := by decide +kernel
theorem dX9_many_1 : decode cX9_many 1 = .ok (.getfield 16, 3) := by decide +kernel
theorem dX9_many_4 : decode cX9_many 4 = .ok (.bipush 21, 2) := by decide +kernel
theorem dX9_many_6 : decode cX9_many 6 = .ok (.iload_n 1, 1) := by decide +kernel
theorem dX9_many_7 : decode cX9_many 7 = .ok (.imul, 1) := by decide +kernel
theorem dX9_many_8 : decode cX9_many 8 = .ok (.iaload, 1) := by decide +kernel
theorem dX9_many_9 : decode cX9_many 9 = .ok (.ireturn, 1) := by decide +kernel
theorem dX9_threadAt_0 : decode cX9_threadAt 0 = .ok (.aload_n 0, 1) := by decide +kernel
theorem dX9_threadAt_1 : decode cX9_threadAt 1 = .ok (.getfield 16, 3) := by decide +kernel
theorem dX9_threadAt_4 : decode cX9_threadAt 4 = .ok (.bipush 21, 2) := by decide +kernel
theorem dX9_threadAt_6 : decode cX9_threadAt 6 = .ok (.iload_n 1, 1) := by decide +kernel
theorem dX9_threadAt_7 : decode cX9_threadAt 7 = .ok (.imul, 1) := by decide +kernel
theorem dX9_threadAt_8 : decode cX9_threadAt 8 = .ok (.iconst 1, 1) := by decide +kernel
theorem dX9_threadAt_9 : decode cX9_threadAt 9 = .ok (.iadd, 1) := by decide +kernel
theorem dX9_threadAt_10 : decode cX9_threadAt 10 = .ok (.iload_n 2, 1) := by decide +kernel
theorem dX9_threadAt_11 : decode cX9_threadAt 11 = .ok (.iadd, 1) := by decide +kernel
theorem dX9_threadAt_12 : decode cX9_threadAt 12 = .ok (.iaload, 1) := by decide +kernel
theorem dX9_threadAt_13 : decode cX9_threadAt 13 = .ok (.bipush 100, 2) := by decide +kernel
theorem dX9_threadAt_15 : decode cX9_threadAt 15 = .ok (.idiv, 1) := by decide +kernel
theorem dX9_threadAt_16 : decode cX9_threadAt 16 = .ok (.ireturn, 1) := by decide +kernel
theorem dX9_signAt_0 : decode cX9_signAt 0 = .ok (.aload_n 0, 1) := by decide +kernel
theorem dX9_signAt_1 : decode cX9_signAt 1 = .ok (.getfield 16, 3) := by decide +kernel
theorem dX9_signAt_4 : decode cX9_signAt 4 = .ok (.bipush 21, 2) := by decide +kernel
theorem dX9_signAt_6 : decode cX9_signAt 6 = .ok (.iload_n 1, 1) := by decide +kernel
theorem dX9_signAt_7 : decode cX9_signAt 7 = .ok (.imul, 1) := by decide +kernel
theorem dX9_signAt_8 : decode cX9_signAt 8 = .ok (.iconst 1, 1) := by decide +kernel
theorem dX9_signAt_9 : decode cX9_signAt 9 = .ok (.iadd, 1) := by decide +kernel
theorem dX9_signAt_10 : decode cX9_signAt 10 = .ok (.iload_n 2, 1) := by decide +kernel
theorem dX9_signAt_11 : decode cX9_signAt 11 = .ok (.iadd, 1) := by decide +kernel
theorem dX9_signAt_12 : decode cX9_signAt 12 = .ok (.iaload, 1) := by decide +kernel
theorem dX9_signAt_13 : decode cX9_signAt 13 = .ok (.bipush 10, 2) := by decide +kernel
theorem dX9_signAt_15 : decode cX9_signAt 15 = .ok (.idiv, 1) := by decide +kernel
theorem dX9_signAt_16 : decode cX9_signAt 16 = .ok (.bipush 10, 2) := by decide +kernel
theorem dX9_signAt_18 : decode cX9_signAt 18 = .ok (.irem, 1) := by decide +kernel
theorem dX9_signAt_19 : decode cX9_signAt 19 = .ok (.ireturn, 1) := by decide +kernel
theorem dX9_aboutAt_0 : decode cX9_aboutAt 0 = .ok (.aload_n 0, 1) := by decide +kernel
theorem dX9_aboutAt_1 : decode cX9_aboutAt 1 = .ok (.getfield 16, 3) := by decide +kernel
theorem dX9_aboutAt_4 : decode cX9_aboutAt 4 = .ok (.bipush 21, 2) := by decide +kernel
theorem dX9_aboutAt_6 : decode cX9_aboutAt 6 = .ok (.iload_n 1, 1) := by decide +kernel
theorem dX9_aboutAt_7 : decode cX9_aboutAt 7 = .ok (.imul, 1) := by decide +kernel
theorem dX9_aboutAt_8 : decode cX9_aboutAt 8 = .ok (.iconst 1, 1) := by decide +kernel
theorem dX9_aboutAt_9 : decode cX9_aboutAt 9 = .ok (.iadd, 1) := by decide +kernel
theorem dX9_aboutAt_10 : decode cX9_aboutAt 10 = .ok (.iload_n 2, 1) := by decide +kernel
theorem dX9_aboutAt_11 : decode cX9_aboutAt 11 = .ok (.iadd, 1) := by decide +kernel
theorem dX9_aboutAt_12 : decode cX9_aboutAt 12 = .ok (.iaload, 1) := by decide +kernel
theorem dX9_aboutAt_13 : decode cX9_aboutAt 13 = .ok (.bipush 10, 2) := by decide +kernel
theorem dX9_aboutAt_15 : decode cX9_aboutAt 15 = .ok (.irem, 1) := by decide +kernel
theorem dX9_aboutAt_16 : decode cX9_aboutAt 16 = .ok (.ireturn, 1) := by decide +kernel
theorem dX9_isTouch_0 : decode cX9_isTouch 0 = .ok (.aload_n 0, 1) := by decide +kernel
theorem dX9_isTouch_1 : decode cX9_isTouch 1 = .ok (.iload_n 1, 1) := by decide +kernel
theorem dX9_isTouch_2 : decode cX9_isTouch 2 = .ok (.iload_n 2, 1) := by decide +kernel
theorem dX9_isTouch_3 : decode cX9_isTouch 3 = .ok (.invokevirtual 115, 3) := by decide +kernel
theorem dX9_isTouch_6 : decode cX9_isTouch 6 = .ok (.iconst 3, 1) := by decide +kernel
theorem dX9_isTouch_7 : decode cX9_isTouch 7 = .ok (.if_icmp .eq 13, 3) := by decide +kernel
theorem dX9_isTouch_10 : decode cX9_isTouch 10 = .ok (.aload_n 0, 1) := by decide +kernel
theorem dX9_isTouch_11 : decode cX9_isTouch 11 = .ok (.iload_n 1, 1) := by decide +kernel
theorem dX9_isTouch_12 : decode cX9_isTouch 12 = .ok (.iload_n 2, 1) := by decide +kernel
theorem dX9_isTouch_13 : decode cX9_isTouch 13 = .ok (.invokevirtual 115, 3) := by decide +kernel
theorem dX9_isTouch_16 : decode cX9_isTouch 16 = .ok (.iconst 4, 1) := by decide +kernel
theorem dX9_isTouch_17 : decode cX9_isTouch 17 = .ok (.if_icmp .ne 7, 3) := by decide +kernel
theorem dX9_isTouch_20 : decode cX9_isTouch 20 = .ok (.iconst 1, 1) := by decide +kernel
theorem dX9_isTouch_21 : decode cX9_isTouch 21 = .ok (.goto 4, 3) := by decide +kernel
theorem dX9_isTouch_24 : decode cX9_isTouch 24 = .ok (.iconst 0, 1) := by decide +kernel
theorem dX9_isTouch_25 : decode cX9_isTouch 25 = .ok (.ireturn, 1) := by decide +kernel
theorem dX9_isTouchOf_0 : decode cX9_isTouchOf 0 = .ok (.aload_n 0, 1) := by decide +kernel
theorem dX9_isTouchOf_1 : decode cX9_isTouchOf 1 = .ok (.iload_n 1, 1) := by decide +kernel
theorem dX9_isTouchOf_2 : decode cX9_isTouchOf 2 = .ok (.iload_n 2, 1) := by decide +kernel
theorem dX9_isTouchOf_3 : decode cX9_isTouchOf 3 = .ok (.invokevirtual 119, 3) := by decide +kernel
theorem dX9_isTouchOf_6 : decode cX9_isTouchOf 6 = .ok (.ifCond .eq 17, 3) := by decide +kernel
theorem dX9_isTouchOf_9 : decode cX9_isTouchOf 9 = .ok (.aload_n 0, 1) := by decide +kernel
theorem dX9_isTouchOf_10 : decode cX9_isTouchOf 10 = .ok (.iload_n 1, 1) := by decide +kernel
theorem dX9_isTouchOf_11 : decode cX9_isTouchOf 11 = .ok (.iload_n 2, 1) := by decide +kernel
theorem dX9_isTouchOf_12 : decode cX9_isTouchOf 12 = .ok (.invokevirtual 122, 3) := by decide +kernel
theorem dX9_isTouchOf_15 : decode cX9_isTouchOf 15 = .ok (.iload_n 3, 1) := by decide +kernel
theorem dX9_isTouchOf_16 : decode cX9_isTouchOf 16 = .ok (.if_icmp .ne 7, 3) := by decide +kernel
theorem dX9_isTouchOf_19 : decode cX9_isTouchOf 19 = .ok (.iconst 1, 1) := by decide +kernel
theorem dX9_isTouchOf_20 : decode cX9_isTouchOf 20 = .ok (.goto 4, 3) := by decide +kernel
theorem dX9_isTouchOf_23 : decode cX9_isTouchOf 23 = .ok (.iconst 0, 1) := by decide +kernel
theorem dX9_isTouchOf_24 : decode cX9_isTouchOf 24 = .ok (.ireturn, 1) := by decide +kernel
theorem dX9_isTrace_0 : decode cX9_isTrace 0 = .ok (.aload_n 0, 1) := by decide +kernel
theorem dX9_isTrace_1 : decode cX9_isTrace 1 = .ok (.invokevirtual 125, 3) := by decide +kernel
theorem dX9_isTrace_4 : decode cX9_isTrace 4 = .ok (.iconst 1, 1) := by decide +kernel
theorem dX9_isTrace_5 : decode cX9_isTrace 5 = .ok (.istore_n 2, 1) := by decide +kernel
theorem dX9_isTrace_6 : decode cX9_isTrace 6 = .ok (.iconst 0, 1) := by decide +kernel
theorem dX9_isTrace_7 : decode cX9_isTrace 7 = .ok (.istore_n 3, 1) := by decide +kernel
theorem dX9_isTrace_8 : decode cX9_isTrace 8 = .ok (.iload_n 3, 1) := by decide +kernel
theorem dX9_isTrace_9 : decode cX9_isTrace 9 = .ok (.aload_n 0, 1) := by decide +kernel
theorem dX9_isTrace_10 : decode cX9_isTrace 10 = .ok (.iload_n 1, 1) := by decide +kernel
theorem dX9_isTrace_11 : decode cX9_isTrace 11 = .ok (.invokevirtual 128, 3) := by decide +kernel
theorem dX9_isTrace_14 : decode cX9_isTrace 14 = .ok (.if_icmp .ge 79, 3) := by decide +kernel
theorem dX9_isTrace_17 : decode cX9_isTrace 17 = .ok (.iload_n 2, 1) := by decide +kernel
theorem dX9_isTrace_18 : decode cX9_isTrace 18 = .ok (.ifCond .eq 75, 3) := by decide +kernel
theorem dX9_isTrace_21 : decode cX9_isTrace 21 = .ok (.aload_n 0, 1) := by decide +kernel
theorem dX9_isTrace_22 : decode cX9_isTrace 22 = .ok (.iload_n 1, 1) := by decide +kernel
theorem dX9_isTrace_23 : decode cX9_isTrace 23 = .ok (.iload_n 3, 1) := by decide +kernel
theorem dX9_isTrace_24 : decode cX9_isTrace 24 = .ok (.invokevirtual 132, 3) := by decide +kernel
theorem dX9_isTrace_27 : decode cX9_isTrace 27 = .ok (.istore 4, 2) := by decide +kernel
theorem dX9_isTrace_29 : decode cX9_isTrace 29 = .ok (.aload_n 0, 1) := by decide +kernel
theorem dX9_isTrace_30 : decode cX9_isTrace 30 = .ok (.iload 4, 2) := by decide +kernel
theorem dX9_isTrace_32 : decode cX9_isTrace 32 = .ok (.invokevirtual 108, 3) := by decide +kernel
theorem dX9_isTrace_35 : decode cX9_isTrace 35 = .ok (.ifCond .eq 28, 3) := by decide +kernel
theorem dX9_isTrace_38 : decode cX9_isTrace 38 = .ok (.aload_n 0, 1) := by decide +kernel
theorem dX9_isTrace_39 : decode cX9_isTrace 39 = .ok (.iload 4, 2) := by decide +kernel
theorem dX9_isTrace_41 : decode cX9_isTrace 41 = .ok (.aload_n 0, 1) := by decide +kernel
theorem dX9_isTrace_42 : decode cX9_isTrace 42 = .ok (.iload_n 1, 1) := by decide +kernel
theorem dX9_isTrace_43 : decode cX9_isTrace 43 = .ok (.iload_n 3, 1) := by decide +kernel
theorem dX9_isTrace_44 : decode cX9_isTrace 44 = .ok (.invokevirtual 115, 3) := by decide +kernel
theorem dX9_isTrace_47 : decode cX9_isTrace 47 = .ok (.aload_n 0, 1) := by decide +kernel
theorem dX9_isTrace_48 : decode cX9_isTrace 48 = .ok (.iload_n 1, 1) := by decide +kernel
theorem dX9_isTrace_49 : decode cX9_isTrace 49 = .ok (.iload_n 3, 1) := by decide +kernel
theorem dX9_isTrace_50 : decode cX9_isTrace 50 = .ok (.invokevirtual 122, 3) := by decide +kernel
theorem dX9_isTrace_53 : decode cX9_isTrace 53 = .ok (.invokevirtual 112, 3) := by decide +kernel
theorem dX9_isTrace_56 : decode cX9_isTrace 56 = .ok (.ifCond .eq 7, 3) := by decide +kernel
theorem dX9_isTrace_59 : decode cX9_isTrace 59 = .ok (.iconst 1, 1) := by decide +kernel
theorem dX9_isTrace_60 : decode cX9_isTrace 60 = .ok (.goto 4, 3) := by decide +kernel
theorem dX9_isTrace_63 : decode cX9_isTrace 63 = .ok (.iconst 0, 1) := by decide +kernel
theorem dX9_isTrace_64 : decode cX9_isTrace 64 = .ok (.istore_n 2, 1) := by decide +kernel
theorem dX9_isTrace_65 : decode cX9_isTrace 65 = .ok (.iload_n 2, 1) := by decide +kernel
theorem dX9_isTrace_66 : decode cX9_isTrace 66 = .ok (.ifCond .eq 21, 3) := by decide +kernel
theorem dX9_isTrace_69 : decode cX9_isTrace 69 = .ok (.aload_n 0, 1) := by decide +kernel
theorem dX9_isTrace_70 : decode cX9_isTrace 70 = .ok (.iload 4, 2) := by decide +kernel
theorem dX9_isTrace_72 : decode cX9_isTrace 72 = .ok (.aload_n 0, 1) := by decide +kernel
theorem dX9_isTrace_73 : decode cX9_isTrace 73 = .ok (.iload_n 1, 1) := by decide +kernel
theorem dX9_isTrace_74 : decode cX9_isTrace 74 = .ok (.iload_n 3, 1) := by decide +kernel
theorem dX9_isTrace_75 : decode cX9_isTrace 75 = .ok (.invokevirtual 115, 3) := by decide +kernel
theorem dX9_isTrace_78 : decode cX9_isTrace 78 = .ok (.aload_n 0, 1) := by decide +kernel
theorem dX9_isTrace_79 : decode cX9_isTrace 79 = .ok (.iload_n 1, 1) := by decide +kernel
theorem dX9_isTrace_80 : decode cX9_isTrace 80 = .ok (.iload_n 3, 1) := by decide +kernel
theorem dX9_isTrace_81 : decode cX9_isTrace 81 = .ok (.invokevirtual 122, 3) := by decide +kernel
theorem dX9_isTrace_84 : decode cX9_isTrace 84 = .ok (.invokevirtual 135, 3) := by decide +kernel
theorem dX9_isTrace_87 : decode cX9_isTrace 87 = .ok (.iinc 3 1, 3) := by decide +kernel
theorem dX9_isTrace_90 : decode cX9_isTrace 90 = .ok (.goto (-82), 3) := by decide +kernel
theorem dX9_isTrace_93 : decode cX9_isTrace 93 = .ok (.iload_n 2, 1) := by decide +kernel
theorem dX9_isTrace_94 : decode cX9_isTrace 94 = .ok (.ireturn, 1) := by decide +kernel
theorem dX9_dropOn_0 : decode cX9_dropOn 0 = .ok (.aload_n 0, 1) := by decide +kernel
theorem dX9_dropOn_1 : decode cX9_dropOn 1 = .ok (.getfield 16, 3) := by decide +kernel
theorem dX9_dropOn_4 : decode cX9_dropOn 4 = .ok (.bipush 21, 2) := by decide +kernel
theorem dX9_dropOn_6 : decode cX9_dropOn 6 = .ok (.iload_n 1, 1) := by decide +kernel
theorem dX9_dropOn_7 : decode cX9_dropOn 7 = .ok (.imul, 1) := by decide +kernel
theorem dX9_dropOn_8 : decode cX9_dropOn 8 = .ok (.dup2, 1) := by decide +kernel
theorem dX9_dropOn_9 : decode cX9_dropOn 9 = .ok (.iaload, 1) := by decide +kernel
theorem dX9_dropOn_10 : decode cX9_dropOn 10 = .ok (.iconst 1, 1) := by decide +kernel
theorem dX9_dropOn_11 : decode cX9_dropOn 11 = .ok (.isub, 1) := by decide +kernel
theorem dX9_dropOn_12 : decode cX9_dropOn 12 = .ok (.iastore, 1) := by decide +kernel
theorem dX9_dropOn_13 : decode cX9_dropOn 13 = .ok (.iload_n 2, 1) := by decide +kernel
theorem dX9_dropOn_14 : decode cX9_dropOn 14 = .ok (.istore_n 3, 1) := by decide +kernel
theorem dX9_dropOn_15 : decode cX9_dropOn 15 = .ok (.iload_n 3, 1) := by decide +kernel
theorem dX9_dropOn_16 : decode cX9_dropOn 16 = .ok (.aload_n 0, 1) := by decide +kernel
theorem dX9_dropOn_17 : decode cX9_dropOn 17 = .ok (.iload_n 1, 1) := by decide +kernel
theorem dX9_dropOn_18 : decode cX9_dropOn 18 = .ok (.invokevirtual 128, 3) := by decide +kernel
theorem dX9_dropOn_21 : decode cX9_dropOn 21 = .ok (.if_icmp .ge 35, 3) := by decide +kernel
theorem dX9_dropOn_24 : decode cX9_dropOn 24 = .ok (.aload_n 0, 1) := by decide +kernel
theorem dX9_dropOn_25 : decode cX9_dropOn 25 = .ok (.getfield 16, 3) := by decide +kernel
theorem dX9_dropOn_28 : decode cX9_dropOn 28 = .ok (.bipush 21, 2) := by decide +kernel
theorem dX9_dropOn_30 : decode cX9_dropOn 30 = .ok (.iload_n 1, 1) := by decide +kernel
theorem dX9_dropOn_31 : decode cX9_dropOn 31 = .ok (.imul, 1) := by decide +kernel
theorem dX9_dropOn_32 : decode cX9_dropOn 32 = .ok (.iconst 1, 1) := by decide +kernel
theorem dX9_dropOn_33 : decode cX9_dropOn 33 = .ok (.iadd, 1) := by decide +kernel
theorem dX9_dropOn_34 : decode cX9_dropOn 34 = .ok (.iload_n 3, 1) := by decide +kernel
theorem dX9_dropOn_35 : decode cX9_dropOn 35 = .ok (.iadd, 1) := by decide +kernel
theorem dX9_dropOn_36 : decode cX9_dropOn 36 = .ok (.aload_n 0, 1) := by decide +kernel
theorem dX9_dropOn_37 : decode cX9_dropOn 37 = .ok (.getfield 16, 3) := by decide +kernel
theorem dX9_dropOn_40 : decode cX9_dropOn 40 = .ok (.bipush 21, 2) := by decide +kernel
theorem dX9_dropOn_42 : decode cX9_dropOn 42 = .ok (.iload_n 1, 1) := by decide +kernel
theorem dX9_dropOn_43 : decode cX9_dropOn 43 = .ok (.imul, 1) := by decide +kernel
theorem dX9_dropOn_44 : decode cX9_dropOn 44 = .ok (.iconst 2, 1) := by decide +kernel
theorem dX9_dropOn_45 : decode cX9_dropOn 45 = .ok (.iadd, 1) := by decide +kernel
theorem dX9_dropOn_46 : decode cX9_dropOn 46 = .ok (.iload_n 3, 1) := by decide +kernel
theorem dX9_dropOn_47 : decode cX9_dropOn 47 = .ok (.iadd, 1) := by decide +kernel
theorem dX9_dropOn_48 : decode cX9_dropOn 48 = .ok (.iaload, 1) := by decide +kernel
theorem dX9_dropOn_49 : decode cX9_dropOn 49 = .ok (.iastore, 1) := by decide +kernel
theorem dX9_dropOn_50 : decode cX9_dropOn 50 = .ok (.iinc 3 1, 3) := by decide +kernel
theorem dX9_dropOn_53 : decode cX9_dropOn 53 = .ok (.goto (-38), 3) := by decide +kernel
theorem dX9_dropOn_56 : decode cX9_dropOn 56 = .ok (.return_, 1) := by decide +kernel
theorem dX9_swapOn_0 : decode cX9_swapOn 0 = .ok (.aload_n 0, 1) := by decide +kernel
theorem dX9_swapOn_1 : decode cX9_swapOn 1 = .ok (.getfield 16, 3) := by decide +kernel
theorem dX9_swapOn_4 : decode cX9_swapOn 4 = .ok (.bipush 21, 2) := by decide +kernel
theorem dX9_swapOn_6 : decode cX9_swapOn 6 = .ok (.iload_n 1, 1) := by decide +kernel
theorem dX9_swapOn_7 : decode cX9_swapOn 7 = .ok (.imul, 1) := by decide +kernel
theorem dX9_swapOn_8 : decode cX9_swapOn 8 = .ok (.iconst 1, 1) := by decide +kernel
theorem dX9_swapOn_9 : decode cX9_swapOn 9 = .ok (.iadd, 1) := by decide +kernel
theorem dX9_swapOn_10 : decode cX9_swapOn 10 = .ok (.iload_n 2, 1) := by decide +kernel
theorem dX9_swapOn_11 : decode cX9_swapOn 11 = .ok (.iadd, 1) := by decide +kernel
theorem dX9_swapOn_12 : decode cX9_swapOn 12 = .ok (.iaload, 1) := by decide +kernel
theorem dX9_swapOn_13 : decode cX9_swapOn 13 = .ok (.istore_n 3, 1) := by decide +kernel
theorem dX9_swapOn_14 : decode cX9_swapOn 14 = .ok (.aload_n 0, 1) := by decide +kernel
theorem dX9_swapOn_15 : decode cX9_swapOn 15 = .ok (.getfield 16, 3) := by decide +kernel
theorem dX9_swapOn_18 : decode cX9_swapOn 18 = .ok (.bipush 21, 2) := by decide +kernel
theorem dX9_swapOn_20 : decode cX9_swapOn 20 = .ok (.iload_n 1, 1) := by decide +kernel
theorem dX9_swapOn_21 : decode cX9_swapOn 21 = .ok (.imul, 1) := by decide +kernel
theorem dX9_swapOn_22 : decode cX9_swapOn 22 = .ok (.iconst 1, 1) := by decide +kernel
theorem dX9_swapOn_23 : decode cX9_swapOn 23 = .ok (.iadd, 1) := by decide +kernel
theorem dX9_swapOn_24 : decode cX9_swapOn 24 = .ok (.iload_n 2, 1) := by decide +kernel
theorem dX9_swapOn_25 : decode cX9_swapOn 25 = .ok (.iadd, 1) := by decide +kernel
theorem dX9_swapOn_26 : decode cX9_swapOn 26 = .ok (.aload_n 0, 1) := by decide +kernel
theorem dX9_swapOn_27 : decode cX9_swapOn 27 = .ok (.getfield 16, 3) := by decide +kernel
theorem dX9_swapOn_30 : decode cX9_swapOn 30 = .ok (.bipush 21, 2) := by decide +kernel
theorem dX9_swapOn_32 : decode cX9_swapOn 32 = .ok (.iload_n 1, 1) := by decide +kernel
theorem dX9_swapOn_33 : decode cX9_swapOn 33 = .ok (.imul, 1) := by decide +kernel
theorem dX9_swapOn_34 : decode cX9_swapOn 34 = .ok (.iconst 2, 1) := by decide +kernel
theorem dX9_swapOn_35 : decode cX9_swapOn 35 = .ok (.iadd, 1) := by decide +kernel
theorem dX9_swapOn_36 : decode cX9_swapOn 36 = .ok (.iload_n 2, 1) := by decide +kernel
theorem dX9_swapOn_37 : decode cX9_swapOn 37 = .ok (.iadd, 1) := by decide +kernel
theorem dX9_swapOn_38 : decode cX9_swapOn 38 = .ok (.iaload, 1) := by decide +kernel
theorem dX9_swapOn_39 : decode cX9_swapOn 39 = .ok (.iastore, 1) := by decide +kernel
theorem dX9_swapOn_40 : decode cX9_swapOn 40 = .ok (.aload_n 0, 1) := by decide +kernel
theorem dX9_swapOn_41 : decode cX9_swapOn 41 = .ok (.getfield 16, 3) := by decide +kernel
theorem dX9_swapOn_44 : decode cX9_swapOn 44 = .ok (.bipush 21, 2) := by decide +kernel
theorem dX9_swapOn_46 : decode cX9_swapOn 46 = .ok (.iload_n 1, 1) := by decide +kernel
theorem dX9_swapOn_47 : decode cX9_swapOn 47 = .ok (.imul, 1) := by decide +kernel
theorem dX9_swapOn_48 : decode cX9_swapOn 48 = .ok (.iconst 2, 1) := by decide +kernel
theorem dX9_swapOn_49 : decode cX9_swapOn 49 = .ok (.iadd, 1) := by decide +kernel
theorem dX9_swapOn_50 : decode cX9_swapOn 50 = .ok (.iload_n 2, 1) := by decide +kernel
theorem dX9_swapOn_51 : decode cX9_swapOn 51 = .ok (.iadd, 1) := by decide +kernel
theorem dX9_swapOn_52 : decode cX9_swapOn 52 = .ok (.iload_n 3, 1) := by decide +kernel
theorem dX9_swapOn_53 : decode cX9_swapOn 53 = .ok (.iastore, 1) := by decide +kernel
theorem dX9_swapOn_54 : decode cX9_swapOn 54 = .ok (.return_, 1) := by decide +kernel
theorem dX9_lay_0 : decode cX9_lay 0 = .ok (.iconst 0, 1) := by decide +kernel
theorem dX9_lay_1 : decode cX9_lay 1 = .ok (.istore_n 3, 1) := by decide +kernel
theorem dX9_lay_2 : decode cX9_lay 2 = .ok (.iload_n 3, 1) := by decide +kernel
theorem dX9_lay_3 : decode cX9_lay 3 = .ok (.bipush 21, 2) := by decide +kernel
theorem dX9_lay_5 : decode cX9_lay 5 = .ok (.if_icmp .ge 31, 3) := by decide +kernel
theorem dX9_lay_8 : decode cX9_lay 8 = .ok (.aload_n 0, 1) := by decide +kernel
theorem dX9_lay_9 : decode cX9_lay 9 = .ok (.getfield 16, 3) := by decide +kernel
theorem dX9_lay_12 : decode cX9_lay 12 = .ok (.bipush 21, 2) := by decide +kernel
theorem dX9_lay_14 : decode cX9_lay 14 = .ok (.iload_n 1, 1) := by decide +kernel
theorem dX9_lay_15 : decode cX9_lay 15 = .ok (.imul, 1) := by decide +kernel
theorem dX9_lay_16 : decode cX9_lay 16 = .ok (.iload_n 3, 1) := by decide +kernel
theorem dX9_lay_17 : decode cX9_lay 17 = .ok (.iadd, 1) := by decide +kernel
theorem dX9_lay_18 : decode cX9_lay 18 = .ok (.aload_n 0, 1) := by decide +kernel
theorem dX9_lay_19 : decode cX9_lay 19 = .ok (.getfield 16, 3) := by decide +kernel
theorem dX9_lay_22 : decode cX9_lay 22 = .ok (.bipush 21, 2) := by decide +kernel
theorem dX9_lay_24 : decode cX9_lay 24 = .ok (.iload_n 2, 1) := by decide +kernel
theorem dX9_lay_25 : decode cX9_lay 25 = .ok (.imul, 1) := by decide +kernel
theorem dX9_lay_26 : decode cX9_lay 26 = .ok (.iload_n 3, 1) := by decide +kernel
theorem dX9_lay_27 : decode cX9_lay 27 = .ok (.iadd, 1) := by decide +kernel
theorem dX9_lay_28 : decode cX9_lay 28 = .ok (.iaload, 1) := by decide +kernel
theorem dX9_lay_29 : decode cX9_lay 29 = .ok (.iastore, 1) := by decide +kernel
theorem dX9_lay_30 : decode cX9_lay 30 = .ok (.iinc 3 1, 3) := by decide +kernel
theorem dX9_lay_33 : decode cX9_lay 33 = .ok (.goto (-31), 3) := by decide +kernel
theorem dX9_lay_36 : decode cX9_lay 36 = .ok (.return_, 1) := by decide +kernel
theorem dX9_write_0 : decode cX9_write 0 = .ok (.iload_n 1, 1) := by decide +kernel
theorem dX9_write_1 : decode cX9_write 1 = .ok (.i2l, 1) := by decide +kernel
theorem dX9_write_2 : decode cX9_write 2 = .ok (.lconst 0, 1) := by decide +kernel
theorem dX9_write_3 : decode cX9_write 3 = .ok (.ldc2_w 139, 3) := by decide +kernel
theorem dX9_write_6 : decode cX9_write 6 = .ok (.invokestatic 89, 3) := by decide +kernel
theorem dX9_write_9 : decode cX9_write 9 = .ok (.ifCond .ne 6, 3) := by decide +kernel
theorem dX9_write_12 : decode cX9_write 12 = .ok (.bipush (-2), 2) := by decide +kernel
theorem dX9_write_14 : decode cX9_write 14 = .ok (.ireturn, 1) := by decide +kernel
theorem dX9_write_15 : decode cX9_write 15 = .ok (.aload_n 0, 1) := by decide +kernel
theorem dX9_write_16 : decode cX9_write 16 = .ok (.getfield 141, 3) := by decide +kernel
theorem dX9_write_19 : decode cX9_write 19 = .ok (.bipush 64, 2) := by decide +kernel
theorem dX9_write_21 : decode cX9_write 21 = .ok (.if_icmp .ne 6, 3) := by decide +kernel
theorem dX9_write_24 : decode cX9_write 24 = .ok (.bipush (-4), 2) := by decide +kernel
theorem dX9_write_26 : decode cX9_write 26 = .ok (.ireturn, 1) := by decide +kernel
theorem dX9_write_27 : decode cX9_write 27 = .ok (.aload_n 0, 1) := by decide +kernel
theorem dX9_write_28 : decode cX9_write 28 = .ok (.getfield 19, 3) := by decide +kernel
theorem dX9_write_31 : decode cX9_write 31 = .ok (.aload_n 0, 1) := by decide +kernel
theorem dX9_write_32 : decode cX9_write 32 = .ok (.getfield 141, 3) := by decide +kernel
theorem dX9_write_35 : decode cX9_write 35 = .ok (.iload_n 1, 1) := by decide +kernel
theorem dX9_write_36 : decode cX9_write 36 = .ok (.iastore, 1) := by decide +kernel
theorem dX9_write_37 : decode cX9_write 37 = .ok (.aload_n 0, 1) := by decide +kernel
theorem dX9_write_38 : decode cX9_write 38 = .ok (.dup, 1) := by decide +kernel
theorem dX9_write_39 : decode cX9_write 39 = .ok (.getfield 141, 3) := by decide +kernel
theorem dX9_write_42 : decode cX9_write 42 = .ok (.iconst 1, 1) := by decide +kernel
theorem dX9_write_43 : decode cX9_write 43 = .ok (.iadd, 1) := by decide +kernel
theorem dX9_write_44 : decode cX9_write 44 = .ok (.putfield 141, 3) := by decide +kernel
theorem dX9_write_47 : decode cX9_write 47 = .ok (.aload_n 0, 1) := by decide +kernel
theorem dX9_write_48 : decode cX9_write 48 = .ok (.getfield 141, 3) := by decide +kernel
theorem dX9_write_51 : decode cX9_write 51 = .ok (.ireturn, 1) := by decide +kernel
theorem dX9_wipe_0 : decode cX9_wipe 0 = .ok (.aload_n 0, 1) := by decide +kernel
theorem dX9_wipe_1 : decode cX9_wipe 1 = .ok (.getfield 141, 3) := by decide +kernel
theorem dX9_wipe_4 : decode cX9_wipe 4 = .ok (.istore_n 1, 1) := by decide +kernel
theorem dX9_wipe_5 : decode cX9_wipe 5 = .ok (.aload_n 0, 1) := by decide +kernel
theorem dX9_wipe_6 : decode cX9_wipe 6 = .ok (.iconst 0, 1) := by decide +kernel
theorem dX9_wipe_7 : decode cX9_wipe 7 = .ok (.putfield 141, 3) := by decide +kernel
theorem dX9_wipe_10 : decode cX9_wipe 10 = .ok (.iload_n 1, 1) := by decide +kernel
theorem dX9_wipe_11 : decode cX9_wipe 11 = .ok (.ireturn, 1) := by decide +kernel
theorem dX9_signOf_0 : decode cX9_signOf 0 = .ok (.iload_n 0, 1) := by decide +kernel
theorem dX9_signOf_1 : decode cX9_signOf 1 = .ok (.tableswitch 102 102 119 #[97, 102, 102, 102, 99, 102, 87, 102, 102, 102, 102, 102, 93, 89, 102, 91, 102, 95], 87) := by decide +kernel
theorem dX9_signOf_88 : decode cX9_signOf 88 = .ok (.iconst 0, 1) := by decide +kernel
theorem dX9_signOf_89 : decode cX9_signOf 89 = .ok (.ireturn, 1) := by decide +kernel
theorem dX9_signOf_90 : decode cX9_signOf 90 = .ok (.iconst 1, 1) := by decide +kernel
theorem dX9_signOf_91 : decode cX9_signOf 91 = .ok (.ireturn, 1) := by decide +kernel
theorem dX9_signOf_92 : decode cX9_signOf 92 = .ok (.iconst 2, 1) := by decide +kernel
theorem dX9_signOf_93 : decode cX9_signOf 93 = .ok (.ireturn, 1) := by decide +kernel
theorem dX9_signOf_94 : decode cX9_signOf 94 = .ok (.iconst 3, 1) := by decide +kernel
theorem dX9_signOf_95 : decode cX9_signOf 95 = .ok (.ireturn, 1) := by decide +kernel
theorem dX9_signOf_96 : decode cX9_signOf 96 = .ok (.iconst 4, 1) := by decide +kernel
theorem dX9_signOf_97 : decode cX9_signOf 97 = .ok (.ireturn, 1) := by decide +kernel
theorem dX9_signOf_98 : decode cX9_signOf 98 = .ok (.iconst 5, 1) := by decide +kernel
theorem dX9_signOf_99 : decode cX9_signOf 99 = .ok (.ireturn, 1) := by decide +kernel
theorem dX9_signOf_100 : decode cX9_signOf 100 = .ok (.bipush 6, 2) := by decide +kernel
theorem dX9_signOf_102 : decode cX9_signOf 102 = .ok (.ireturn, 1) := by decide +kernel
theorem dX9_signOf_103 : decode cX9_signOf 103 = .ok (.bipush (-9), 2) := by decide +kernel
theorem dX9_signOf_105 : decode cX9_signOf 105 = .ok (.ireturn, 1) := by decide +kernel
theorem dX9_aboutBy_0 : decode cX9_aboutBy 0 = .ok (.iload_n 1, 1) := by decide +kernel
theorem dX9_aboutBy_1 : decode cX9_aboutBy 1 = .ok (.iload_n 0, 1) := by decide +kernel
theorem dX9_aboutBy_2 : decode cX9_aboutBy 2 = .ok (.iconst 3, 1) := by decide +kernel
theorem dX9_aboutBy_3 : decode cX9_aboutBy 3 = .ok (.if_icmp .ge 8, 3) := by decide +kernel
theorem dX9_aboutBy_6 : decode cX9_aboutBy 6 = .ok (.bipush 65, 2) := by decide +kernel
theorem dX9_aboutBy_8 : decode cX9_aboutBy 8 = .ok (.goto 15, 3) := by decide +kernel
theorem dX9_aboutBy_11 : decode cX9_aboutBy 11 = .ok (.iload_n 0, 1) := by decide +kernel
theorem dX9_aboutBy_12 : decode cX9_aboutBy 12 = .ok (.iconst 5, 1) := by decide +kernel
theorem dX9_aboutBy_13 : decode cX9_aboutBy 13 = .ok (.if_icmp .ge 8, 3) := by decide +kernel
theorem dX9_aboutBy_16 : decode cX9_aboutBy 16 = .ok (.bipush 97, 2) := by decide +kernel
theorem dX9_aboutBy_18 : decode cX9_aboutBy 18 = .ok (.goto 5, 3) := by decide +kernel
theorem dX9_aboutBy_21 : decode cX9_aboutBy 21 = .ok (.bipush 48, 2) := by decide +kernel
theorem dX9_aboutBy_23 : decode cX9_aboutBy 23 = .ok (.isub, 1) := by decide +kernel
theorem dX9_aboutBy_24 : decode cX9_aboutBy 24 = .ok (.ireturn, 1) := by decide +kernel
theorem dX9_readText_0 : decode cX9_readText 0 = .ok (.aload_n 0, 1) := by decide +kernel
theorem dX9_readText_1 : decode cX9_readText 1 = .ok (.getfield 22, 3) := by decide +kernel
theorem dX9_readText_4 : decode cX9_readText 4 = .ok (.iconst 0, 1) := by decide +kernel
theorem dX9_readText_5 : decode cX9_readText 5 = .ok (.iconst 0, 1) := by decide +kernel
theorem dX9_readText_6 : decode cX9_readText 6 = .ok (.iastore, 1) := by decide +kernel
theorem dX9_readText_7 : decode cX9_readText 7 = .ok (.aload_n 0, 1) := by decide +kernel
theorem dX9_readText_8 : decode cX9_readText 8 = .ok (.invokevirtual 125, 3) := by decide +kernel
theorem dX9_readText_11 : decode cX9_readText 11 = .ok (.aload_n 0, 1) := by decide +kernel
theorem dX9_readText_12 : decode cX9_readText 12 = .ok (.getfield 141, 3) := by decide +kernel
theorem dX9_readText_15 : decode cX9_readText 15 = .ok (.ifCond .eq 14, 3) := by decide +kernel
theorem dX9_readText_18 : decode cX9_readText 18 = .ok (.aload_n 0, 1) := by decide +kernel
theorem dX9_readText_19 : decode cX9_readText 19 = .ok (.getfield 19, 3) := by decide +kernel
theorem dX9_readText_22 : decode cX9_readText 22 = .ok (.iconst 0, 1) := by decide +kernel
theorem dX9_readText_23 : decode cX9_readText 23 = .ok (.iaload, 1) := by decide +kernel
theorem dX9_readText_24 : decode cX9_readText 24 = .ok (.bipush 84, 2) := by decide +kernel
theorem dX9_readText_26 : decode cX9_readText 26 = .ok (.if_icmp .eq 5, 3) := by decide +kernel
theorem dX9_readText_29 : decode cX9_readText 29 = .ok (.iconst 0, 1) := by decide +kernel
theorem dX9_readText_30 : decode cX9_readText 30 = .ok (.ireturn, 1) := by decide +kernel
theorem dX9_readText_31 : decode cX9_readText 31 = .ok (.iconst 1, 1) := by decide +kernel
theorem dX9_readText_32 : decode cX9_readText 32 = .ok (.istore_n 1, 1) := by decide +kernel
theorem dX9_readText_33 : decode cX9_readText 33 = .ok (.iload_n 1, 1) := by decide +kernel
theorem dX9_readText_34 : decode cX9_readText 34 = .ok (.aload_n 0, 1) := by decide +kernel
theorem dX9_readText_35 : decode cX9_readText 35 = .ok (.getfield 141, 3) := by decide +kernel
theorem dX9_readText_38 : decode cX9_readText 38 = .ok (.if_icmp .ge 171, 3) := by decide +kernel
theorem dX9_readText_41 : decode cX9_readText 41 = .ok (.aload_n 0, 1) := by decide +kernel
theorem dX9_readText_42 : decode cX9_readText 42 = .ok (.getfield 19, 3) := by decide +kernel
theorem dX9_readText_45 : decode cX9_readText 45 = .ok (.iload_n 1, 1) := by decide +kernel
theorem dX9_readText_46 : decode cX9_readText 46 = .ok (.iaload, 1) := by decide +kernel
theorem dX9_readText_47 : decode cX9_readText 47 = .ok (.bipush 48, 2) := by decide +kernel
theorem dX9_readText_49 : decode cX9_readText 49 = .ok (.isub, 1) := by decide +kernel
theorem dX9_readText_50 : decode cX9_readText 50 = .ok (.istore_n 2, 1) := by decide +kernel
theorem dX9_readText_51 : decode cX9_readText 51 = .ok (.aload_n 0, 1) := by decide +kernel
theorem dX9_readText_52 : decode cX9_readText 52 = .ok (.getfield 22, 3) := by decide +kernel
theorem dX9_readText_55 : decode cX9_readText 55 = .ok (.iconst 0, 1) := by decide +kernel
theorem dX9_readText_56 : decode cX9_readText 56 = .ok (.iaload, 1) := by decide +kernel
theorem dX9_readText_57 : decode cX9_readText 57 = .ok (.bipush 20, 2) := by decide +kernel
theorem dX9_readText_59 : decode cX9_readText 59 = .ok (.if_icmp .eq 11, 3) := by decide +kernel
theorem dX9_readText_62 : decode cX9_readText 62 = .ok (.aload_n 0, 1) := by decide +kernel
theorem dX9_readText_63 : decode cX9_readText 63 = .ok (.iload_n 2, 1) := by decide +kernel
theorem dX9_readText_64 : decode cX9_readText 64 = .ok (.invokevirtual 108, 3) := by decide +kernel
theorem dX9_readText_67 : decode cX9_readText 67 = .ok (.ifCond .ne 5, 3) := by decide +kernel
theorem dX9_readText_70 : decode cX9_readText 70 = .ok (.iload_n 1, 1) := by decide +kernel
theorem dX9_readText_71 : decode cX9_readText 71 = .ok (.ireturn, 1) := by decide +kernel
theorem dX9_readText_72 : decode cX9_readText 72 = .ok (.iload_n 1, 1) := by decide +kernel
theorem dX9_readText_73 : decode cX9_readText 73 = .ok (.iconst 1, 1) := by decide +kernel
theorem dX9_readText_74 : decode cX9_readText 74 = .ok (.iadd, 1) := by decide +kernel
theorem dX9_readText_75 : decode cX9_readText 75 = .ok (.aload_n 0, 1) := by decide +kernel
theorem dX9_readText_76 : decode cX9_readText 76 = .ok (.getfield 141, 3) := by decide +kernel
theorem dX9_readText_79 : decode cX9_readText 79 = .ok (.if_icmp .ge 17, 3) := by decide +kernel
theorem dX9_readText_82 : decode cX9_readText 82 = .ok (.aload_n 0, 1) := by decide +kernel
theorem dX9_readText_83 : decode cX9_readText 83 = .ok (.getfield 19, 3) := by decide +kernel
theorem dX9_readText_86 : decode cX9_readText 86 = .ok (.iload_n 1, 1) := by decide +kernel
theorem dX9_readText_87 : decode cX9_readText 87 = .ok (.iconst 1, 1) := by decide +kernel
theorem dX9_readText_88 : decode cX9_readText 88 = .ok (.iadd, 1) := by decide +kernel
theorem dX9_readText_89 : decode cX9_readText 89 = .ok (.iaload, 1) := by decide +kernel
theorem dX9_readText_90 : decode cX9_readText 90 = .ok (.invokestatic 144, 3) := by decide +kernel
theorem dX9_readText_93 : decode cX9_readText 93 = .ok (.goto 5, 3) := by decide +kernel
theorem dX9_readText_96 : decode cX9_readText 96 = .ok (.bipush (-9), 2) := by decide +kernel
theorem dX9_readText_98 : decode cX9_readText 98 = .ok (.istore_n 3, 1) := by decide +kernel
theorem dX9_readText_99 : decode cX9_readText 99 = .ok (.iload_n 3, 1) := by decide +kernel
theorem dX9_readText_100 : decode cX9_readText 100 = .ok (.bipush (-9), 2) := by decide +kernel
theorem dX9_readText_102 : decode cX9_readText 102 = .ok (.if_icmp .eq 12, 3) := by decide +kernel
theorem dX9_readText_105 : decode cX9_readText 105 = .ok (.aload_n 0, 1) := by decide +kernel
theorem dX9_readText_106 : decode cX9_readText 106 = .ok (.iload_n 2, 1) := by decide +kernel
theorem dX9_readText_107 : decode cX9_readText 107 = .ok (.iload_n 3, 1) := by decide +kernel
theorem dX9_readText_108 : decode cX9_readText 108 = .ok (.invokevirtual 147, 3) := by decide +kernel
theorem dX9_readText_111 : decode cX9_readText 111 = .ok (.ifCond .ne 7, 3) := by decide +kernel
theorem dX9_readText_114 : decode cX9_readText 114 = .ok (.iload_n 1, 1) := by decide +kernel
theorem dX9_readText_115 : decode cX9_readText 115 = .ok (.iconst 1, 1) := by decide +kernel
theorem dX9_readText_116 : decode cX9_readText 116 = .ok (.iadd, 1) := by decide +kernel
theorem dX9_readText_117 : decode cX9_readText 117 = .ok (.ireturn, 1) := by decide +kernel
theorem dX9_readText_118 : decode cX9_readText 118 = .ok (.iload_n 1, 1) := by decide +kernel
theorem dX9_readText_119 : decode cX9_readText 119 = .ok (.iconst 2, 1) := by decide +kernel
theorem dX9_readText_120 : decode cX9_readText 120 = .ok (.iadd, 1) := by decide +kernel
theorem dX9_readText_121 : decode cX9_readText 121 = .ok (.aload_n 0, 1) := by decide +kernel
theorem dX9_readText_122 : decode cX9_readText 122 = .ok (.getfield 141, 3) := by decide +kernel
theorem dX9_readText_125 : decode cX9_readText 125 = .ok (.if_icmp .ge 18, 3) := by decide +kernel
theorem dX9_readText_128 : decode cX9_readText 128 = .ok (.iload_n 3, 1) := by decide +kernel
theorem dX9_readText_129 : decode cX9_readText 129 = .ok (.aload_n 0, 1) := by decide +kernel
theorem dX9_readText_130 : decode cX9_readText 130 = .ok (.getfield 19, 3) := by decide +kernel
theorem dX9_readText_133 : decode cX9_readText 133 = .ok (.iload_n 1, 1) := by decide +kernel
theorem dX9_readText_134 : decode cX9_readText 134 = .ok (.iconst 2, 1) := by decide +kernel
theorem dX9_readText_135 : decode cX9_readText 135 = .ok (.iadd, 1) := by decide +kernel
theorem dX9_readText_136 : decode cX9_readText 136 = .ok (.iaload, 1) := by decide +kernel
theorem dX9_readText_137 : decode cX9_readText 137 = .ok (.invokestatic 150, 3) := by decide +kernel
theorem dX9_readText_140 : decode cX9_readText 140 = .ok (.goto 5, 3) := by decide +kernel
theorem dX9_readText_143 : decode cX9_readText 143 = .ok (.bipush (-9), 2) := by decide +kernel
theorem dX9_readText_145 : decode cX9_readText 145 = .ok (.istore 4, 2) := by decide +kernel
theorem dX9_readText_147 : decode cX9_readText 147 = .ok (.aload_n 0, 1) := by decide +kernel
theorem dX9_readText_148 : decode cX9_readText 148 = .ok (.iload_n 2, 1) := by decide +kernel
theorem dX9_readText_149 : decode cX9_readText 149 = .ok (.iload_n 3, 1) := by decide +kernel
theorem dX9_readText_150 : decode cX9_readText 150 = .ok (.iload 4, 2) := by decide +kernel
theorem dX9_readText_152 : decode cX9_readText 152 = .ok (.invokevirtual 112, 3) := by decide +kernel
theorem dX9_readText_155 : decode cX9_readText 155 = .ok (.ifCond .ne 7, 3) := by decide +kernel
theorem dX9_readText_158 : decode cX9_readText 158 = .ok (.iload_n 1, 1) := by decide +kernel
theorem dX9_readText_159 : decode cX9_readText 159 = .ok (.iconst 2, 1) := by decide +kernel
theorem dX9_readText_160 : decode cX9_readText 160 = .ok (.iadd, 1) := by decide +kernel
theorem dX9_readText_161 : decode cX9_readText 161 = .ok (.ireturn, 1) := by decide +kernel
theorem dX9_readText_162 : decode cX9_readText 162 = .ok (.aload_n 0, 1) := by decide +kernel
theorem dX9_readText_163 : decode cX9_readText 163 = .ok (.iload_n 2, 1) := by decide +kernel
theorem dX9_readText_164 : decode cX9_readText 164 = .ok (.iload_n 3, 1) := by decide +kernel
theorem dX9_readText_165 : decode cX9_readText 165 = .ok (.iload 4, 2) := by decide +kernel
theorem dX9_readText_167 : decode cX9_readText 167 = .ok (.invokevirtual 135, 3) := by decide +kernel
theorem dX9_readText_170 : decode cX9_readText 170 = .ok (.aload_n 0, 1) := by decide +kernel
theorem dX9_readText_171 : decode cX9_readText 171 = .ok (.getfield 22, 3) := by decide +kernel
theorem dX9_readText_174 : decode cX9_readText 174 = .ok (.iconst 0, 1) := by decide +kernel
theorem dX9_readText_175 : decode cX9_readText 175 = .ok (.dup2, 1) := by decide +kernel
theorem dX9_readText_176 : decode cX9_readText 176 = .ok (.iaload, 1) := by decide +kernel
theorem dX9_readText_177 : decode cX9_readText 177 = .ok (.iconst 1, 1) := by decide +kernel
theorem dX9_readText_178 : decode cX9_readText 178 = .ok (.iadd, 1) := by decide +kernel
theorem dX9_readText_179 : decode cX9_readText 179 = .ok (.iastore, 1) := by decide +kernel
theorem dX9_readText_180 : decode cX9_readText 180 = .ok (.aload_n 0, 1) := by decide +kernel
theorem dX9_readText_181 : decode cX9_readText 181 = .ok (.getfield 22, 3) := by decide +kernel
theorem dX9_readText_184 : decode cX9_readText 184 = .ok (.aload_n 0, 1) := by decide +kernel
theorem dX9_readText_185 : decode cX9_readText 185 = .ok (.getfield 22, 3) := by decide +kernel
theorem dX9_readText_188 : decode cX9_readText 188 = .ok (.iconst 0, 1) := by decide +kernel
theorem dX9_readText_189 : decode cX9_readText 189 = .ok (.iaload, 1) := by decide +kernel
theorem dX9_readText_190 : decode cX9_readText 190 = .ok (.bipush 100, 2) := by decide +kernel
theorem dX9_readText_192 : decode cX9_readText 192 = .ok (.iload_n 2, 1) := by decide +kernel
theorem dX9_readText_193 : decode cX9_readText 193 = .ok (.imul, 1) := by decide +kernel
theorem dX9_readText_194 : decode cX9_readText 194 = .ok (.bipush 10, 2) := by decide +kernel
theorem dX9_readText_196 : decode cX9_readText 196 = .ok (.iload_n 3, 1) := by decide +kernel
theorem dX9_readText_197 : decode cX9_readText 197 = .ok (.imul, 1) := by decide +kernel
theorem dX9_readText_198 : decode cX9_readText 198 = .ok (.iadd, 1) := by decide +kernel
theorem dX9_readText_199 : decode cX9_readText 199 = .ok (.iload 4, 2) := by decide +kernel
theorem dX9_readText_201 : decode cX9_readText 201 = .ok (.iadd, 1) := by decide +kernel
theorem dX9_readText_202 : decode cX9_readText 202 = .ok (.iastore, 1) := by decide +kernel
theorem dX9_readText_203 : decode cX9_readText 203 = .ok (.iinc 1 3, 3) := by decide +kernel
theorem dX9_readText_206 : decode cX9_readText 206 = .ok (.goto (-173), 3) := by decide +kernel
theorem dX9_readText_209 : decode cX9_readText 209 = .ok (.bipush (-9), 2) := by decide +kernel
theorem dX9_readText_211 : decode cX9_readText 211 = .ok (.ireturn, 1) := by decide +kernel
theorem dX9_fault_0 : decode cX9_fault 0 = .ok (.aload_n 0, 1) := by decide +kernel
theorem dX9_fault_1 : decode cX9_fault 1 = .ok (.invokevirtual 153, 3) := by decide +kernel
theorem dX9_fault_4 : decode cX9_fault 4 = .ok (.ireturn, 1) := by decide +kernel
theorem dX9_trace_0 : decode cX9_trace 0 = .ok (.aload_n 0, 1) := by decide +kernel
theorem dX9_trace_1 : decode cX9_trace 1 = .ok (.invokevirtual 153, 3) := by decide +kernel
theorem dX9_trace_4 : decode cX9_trace 4 = .ok (.bipush (-9), 2) := by decide +kernel
theorem dX9_trace_6 : decode cX9_trace 6 = .ok (.if_icmp .eq 6, 3) := by decide +kernel
theorem dX9_trace_9 : decode cX9_trace 9 = .ok (.bipush (-3), 2) := by decide +kernel
theorem dX9_trace_11 : decode cX9_trace 11 = .ok (.ireturn, 1) := by decide +kernel
theorem dX9_trace_12 : decode cX9_trace 12 = .ok (.iconst 0, 1) := by decide +kernel
theorem dX9_trace_13 : decode cX9_trace 13 = .ok (.istore_n 1, 1) := by decide +kernel
theorem dX9_trace_14 : decode cX9_trace 14 = .ok (.iload_n 1, 1) := by decide +kernel
theorem dX9_trace_15 : decode cX9_trace 15 = .ok (.bipush 21, 2) := by decide +kernel
theorem dX9_trace_17 : decode cX9_trace 17 = .ok (.if_icmp .ge 21, 3) := by decide +kernel
theorem dX9_trace_20 : decode cX9_trace 20 = .ok (.aload_n 0, 1) := by decide +kernel
theorem dX9_trace_21 : decode cX9_trace 21 = .ok (.getfield 16, 3) := by decide +kernel
theorem dX9_trace_24 : decode cX9_trace 24 = .ok (.iload_n 1, 1) := by decide +kernel
theorem dX9_trace_25 : decode cX9_trace 25 = .ok (.aload_n 0, 1) := by decide +kernel
theorem dX9_trace_26 : decode cX9_trace 26 = .ok (.getfield 22, 3) := by decide +kernel
theorem dX9_trace_29 : decode cX9_trace 29 = .ok (.iload_n 1, 1) := by decide +kernel
theorem dX9_trace_30 : decode cX9_trace 30 = .ok (.iaload, 1) := by decide +kernel
theorem dX9_trace_31 : decode cX9_trace 31 = .ok (.iastore, 1) := by decide +kernel
theorem dX9_trace_32 : decode cX9_trace 32 = .ok (.iinc 1 1, 3) := by decide +kernel
theorem dX9_trace_35 : decode cX9_trace 35 = .ok (.goto (-21), 3) := by decide +kernel
theorem dX9_trace_38 : decode cX9_trace 38 = .ok (.aload_n 0, 1) := by decide +kernel
theorem dX9_trace_39 : decode cX9_trace 39 = .ok (.iconst 0, 1) := by decide +kernel
theorem dX9_trace_40 : decode cX9_trace 40 = .ok (.putfield 156, 3) := by decide +kernel
theorem dX9_trace_43 : decode cX9_trace 43 = .ok (.aload_n 0, 1) := by decide +kernel
theorem dX9_trace_44 : decode cX9_trace 44 = .ok (.getfield 73, 3) := by decide +kernel
theorem dX9_trace_47 : decode cX9_trace 47 = .ok (.iconst 0, 1) := by decide +kernel
theorem dX9_trace_48 : decode cX9_trace 48 = .ok (.iconst 0, 1) := by decide +kernel
theorem dX9_trace_49 : decode cX9_trace 49 = .ok (.bastore, 1) := by decide +kernel
theorem dX9_trace_50 : decode cX9_trace 50 = .ok (.aload_n 0, 1) := by decide +kernel
theorem dX9_trace_51 : decode cX9_trace 51 = .ok (.getfield 73, 3) := by decide +kernel
theorem dX9_trace_54 : decode cX9_trace 54 = .ok (.iconst 1, 1) := by decide +kernel
theorem dX9_trace_55 : decode cX9_trace 55 = .ok (.iconst 0, 1) := by decide +kernel
theorem dX9_trace_56 : decode cX9_trace 56 = .ok (.bastore, 1) := by decide +kernel
theorem dX9_trace_57 : decode cX9_trace 57 = .ok (.aload_n 0, 1) := by decide +kernel
theorem dX9_trace_58 : decode cX9_trace 58 = .ok (.iconst 0, 1) := by decide +kernel
theorem dX9_trace_59 : decode cX9_trace 59 = .ok (.invokevirtual 128, 3) := by decide +kernel
theorem dX9_trace_62 : decode cX9_trace 62 = .ok (.ireturn, 1) := by decide +kernel
theorem dX9_findHeld_0 : decode cX9_findHeld 0 = .ok (.aload_n 0, 1) := by decide +kernel
theorem dX9_findHeld_1 : decode cX9_findHeld 1 = .ok (.invokevirtual 125, 3) := by decide +kernel
theorem dX9_findHeld_4 : decode cX9_findHeld 4 = .ok (.iconst 0, 1) := by decide +kernel
theorem dX9_findHeld_5 : decode cX9_findHeld 5 = .ok (.istore_n 2, 1) := by decide +kernel
theorem dX9_findHeld_6 : decode cX9_findHeld 6 = .ok (.iload_n 2, 1) := by decide +kernel
theorem dX9_findHeld_7 : decode cX9_findHeld 7 = .ok (.aload_n 0, 1) := by decide +kernel
theorem dX9_findHeld_8 : decode cX9_findHeld 8 = .ok (.iload_n 1, 1) := by decide +kernel
theorem dX9_findHeld_9 : decode cX9_findHeld 9 = .ok (.invokevirtual 128, 3) := by decide +kernel
theorem dX9_findHeld_12 : decode cX9_findHeld 12 = .ok (.if_icmp .ge 57, 3) := by decide +kernel
theorem dX9_findHeld_15 : decode cX9_findHeld 15 = .ok (.aload_n 0, 1) := by decide +kernel
theorem dX9_findHeld_16 : decode cX9_findHeld 16 = .ok (.iload_n 1, 1) := by decide +kernel
theorem dX9_findHeld_17 : decode cX9_findHeld 17 = .ok (.iload_n 2, 1) := by decide +kernel
theorem dX9_findHeld_18 : decode cX9_findHeld 18 = .ok (.invokevirtual 132, 3) := by decide +kernel
theorem dX9_findHeld_21 : decode cX9_findHeld 21 = .ok (.istore_n 3, 1) := by decide +kernel
theorem dX9_findHeld_22 : decode cX9_findHeld 22 = .ok (.aload_n 0, 1) := by decide +kernel
theorem dX9_findHeld_23 : decode cX9_findHeld 23 = .ok (.getfield 25, 3) := by decide +kernel
theorem dX9_findHeld_26 : decode cX9_findHeld 26 = .ok (.iload_n 2, 1) := by decide +kernel
theorem dX9_findHeld_27 : decode cX9_findHeld 27 = .ok (.aload_n 0, 1) := by decide +kernel
theorem dX9_findHeld_28 : decode cX9_findHeld 28 = .ok (.getfield 7, 3) := by decide +kernel
theorem dX9_findHeld_31 : decode cX9_findHeld 31 = .ok (.iload_n 3, 1) := by decide +kernel
theorem dX9_findHeld_32 : decode cX9_findHeld 32 = .ok (.iaload, 1) := by decide +kernel
theorem dX9_findHeld_33 : decode cX9_findHeld 33 = .ok (.iastore, 1) := by decide +kernel
theorem dX9_findHeld_34 : decode cX9_findHeld 34 = .ok (.aload_n 0, 1) := by decide +kernel
theorem dX9_findHeld_35 : decode cX9_findHeld 35 = .ok (.getfield 28, 3) := by decide +kernel
theorem dX9_findHeld_38 : decode cX9_findHeld 38 = .ok (.iload_n 2, 1) := by decide +kernel
theorem dX9_findHeld_39 : decode cX9_findHeld 39 = .ok (.aload_n 0, 1) := by decide +kernel
theorem dX9_findHeld_40 : decode cX9_findHeld 40 = .ok (.getfield 13, 3) := by decide +kernel
theorem dX9_findHeld_43 : decode cX9_findHeld 43 = .ok (.iload_n 3, 1) := by decide +kernel
theorem dX9_findHeld_44 : decode cX9_findHeld 44 = .ok (.iaload, 1) := by decide +kernel
theorem dX9_findHeld_45 : decode cX9_findHeld 45 = .ok (.iastore, 1) := by decide +kernel
theorem dX9_findHeld_46 : decode cX9_findHeld 46 = .ok (.aload_n 0, 1) := by decide +kernel
theorem dX9_findHeld_47 : decode cX9_findHeld 47 = .ok (.iload_n 3, 1) := by decide +kernel
theorem dX9_findHeld_48 : decode cX9_findHeld 48 = .ok (.aload_n 0, 1) := by decide +kernel
theorem dX9_findHeld_49 : decode cX9_findHeld 49 = .ok (.iload_n 1, 1) := by decide +kernel
theorem dX9_findHeld_50 : decode cX9_findHeld 50 = .ok (.iload_n 2, 1) := by decide +kernel
theorem dX9_findHeld_51 : decode cX9_findHeld 51 = .ok (.invokevirtual 115, 3) := by decide +kernel
theorem dX9_findHeld_54 : decode cX9_findHeld 54 = .ok (.aload_n 0, 1) := by decide +kernel
theorem dX9_findHeld_55 : decode cX9_findHeld 55 = .ok (.iload_n 1, 1) := by decide +kernel
theorem dX9_findHeld_56 : decode cX9_findHeld 56 = .ok (.iload_n 2, 1) := by decide +kernel
theorem dX9_findHeld_57 : decode cX9_findHeld 57 = .ok (.invokevirtual 122, 3) := by decide +kernel
theorem dX9_findHeld_60 : decode cX9_findHeld 60 = .ok (.invokevirtual 135, 3) := by decide +kernel
theorem dX9_findHeld_63 : decode cX9_findHeld 63 = .ok (.iinc 2 1, 3) := by decide +kernel
theorem dX9_findHeld_66 : decode cX9_findHeld 66 = .ok (.goto (-60), 3) := by decide +kernel
theorem dX9_findHeld_69 : decode cX9_findHeld 69 = .ok (.return_, 1) := by decide +kernel
theorem dX9_isStep_0 : decode cX9_isStep 0 = .ok (.iload_n 2, 1) := by decide +kernel
theorem dX9_isStep_1 : decode cX9_isStep 1 = .ok (.i2l, 1) := by decide +kernel
theorem dX9_isStep_2 : decode cX9_isStep 2 = .ok (.lconst 0, 1) := by decide +kernel
theorem dX9_isStep_3 : decode cX9_isStep 3 = .ok (.aload_n 0, 1) := by decide +kernel
theorem dX9_isStep_4 : decode cX9_isStep 4 = .ok (.iload_n 1, 1) := by decide +kernel
theorem dX9_isStep_5 : decode cX9_isStep 5 = .ok (.invokevirtual 128, 3) := by decide +kernel
theorem dX9_isStep_8 : decode cX9_isStep 8 = .ok (.iconst 1, 1) := by decide +kernel
theorem dX9_isStep_9 : decode cX9_isStep 9 = .ok (.isub, 1) := by decide +kernel
theorem dX9_isStep_10 : decode cX9_isStep 10 = .ok (.i2l, 1) := by decide +kernel
theorem dX9_isStep_11 : decode cX9_isStep 11 = .ok (.invokestatic 89, 3) := by decide +kernel
theorem dX9_isStep_14 : decode cX9_isStep 14 = .ok (.ireturn, 1) := by decide +kernel
theorem dX9_letterOf_0 : decode cX9_letterOf 0 = .ok (.iload_n 0, 1) := by decide +kernel
theorem dX9_letterOf_1 : decode cX9_letterOf 1 = .ok (.tableswitch 57 0 5 #[39, 42, 45, 48, 51, 54], 39) := by decide +kernel
theorem dX9_letterOf_40 : decode cX9_letterOf 40 = .ok (.bipush 108, 2) := by decide +kernel
theorem dX9_letterOf_42 : decode cX9_letterOf 42 = .ok (.ireturn, 1) := by decide +kernel
theorem dX9_letterOf_43 : decode cX9_letterOf 43 = .ok (.bipush 115, 2) := by decide +kernel
theorem dX9_letterOf_45 : decode cX9_letterOf 45 = .ok (.ireturn, 1) := by decide +kernel
theorem dX9_letterOf_46 : decode cX9_letterOf 46 = .ok (.bipush 117, 2) := by decide +kernel
theorem dX9_letterOf_48 : decode cX9_letterOf 48 = .ok (.ireturn, 1) := by decide +kernel
theorem dX9_letterOf_49 : decode cX9_letterOf 49 = .ok (.bipush 114, 2) := by decide +kernel
theorem dX9_letterOf_51 : decode cX9_letterOf 51 = .ok (.ireturn, 1) := by decide +kernel
theorem dX9_letterOf_52 : decode cX9_letterOf 52 = .ok (.bipush 119, 2) := by decide +kernel
theorem dX9_letterOf_54 : decode cX9_letterOf 54 = .ok (.ireturn, 1) := by decide +kernel
theorem dX9_letterOf_55 : decode cX9_letterOf 55 = .ok (.bipush 102, 2) := by decide +kernel
theorem dX9_letterOf_57 : decode cX9_letterOf 57 = .ok (.ireturn, 1) := by decide +kernel
theorem dX9_letterOf_58 : decode cX9_letterOf 58 = .ok (.bipush 106, 2) := by decide +kernel
theorem dX9_letterOf_60 : decode cX9_letterOf 60 = .ok (.ireturn, 1) := by decide +kernel
theorem dX9_step_0 : decode cX9_step 0 = .ok (.aload_n 0, 1) := by decide +kernel
theorem dX9_step_1 : decode cX9_step 1 = .ok (.iconst 0, 1) := by decide +kernel
theorem dX9_step_2 : decode cX9_step 2 = .ok (.iload_n 1, 1) := by decide +kernel
theorem dX9_step_3 : decode cX9_step 3 = .ok (.invokevirtual 159, 3) := by decide +kernel
theorem dX9_step_6 : decode cX9_step 6 = .ok (.ifCond .ne 5, 3) := by decide +kernel
theorem dX9_step_9 : decode cX9_step 9 = .ok (.iconst (-1), 1) := by decide +kernel
theorem dX9_step_10 : decode cX9_step 10 = .ok (.ireturn, 1) := by decide +kernel
theorem dX9_step_11 : decode cX9_step 11 = .ok (.aload_n 0, 1) := by decide +kernel
theorem dX9_step_12 : decode cX9_step 12 = .ok (.iconst 0, 1) := by decide +kernel
theorem dX9_step_13 : decode cX9_step 13 = .ok (.invokevirtual 162, 3) := by decide +kernel
theorem dX9_step_16 : decode cX9_step 16 = .ok (.iload_n 2, 1) := by decide +kernel
theorem dX9_step_17 : decode cX9_step 17 = .ok (.tableswitch 73 0 4 #[35, 42, 52, 59, 66], 35) := by decide +kernel
theorem dX9_step_52 : decode cX9_step 52 = .ok (.aload_n 0, 1) := by decide +kernel
theorem dX9_step_53 : decode cX9_step 53 = .ok (.iconst 0, 1) := by decide +kernel
theorem dX9_step_54 : decode cX9_step 54 = .ok (.iload_n 1, 1) := by decide +kernel
theorem dX9_step_55 : decode cX9_step 55 = .ok (.invokevirtual 132, 3) := by decide +kernel
theorem dX9_step_58 : decode cX9_step 58 = .ok (.ireturn, 1) := by decide +kernel
theorem dX9_step_59 : decode cX9_step 59 = .ok (.aload_n 0, 1) := by decide +kernel
theorem dX9_step_60 : decode cX9_step 60 = .ok (.iconst 0, 1) := by decide +kernel
theorem dX9_step_61 : decode cX9_step 61 = .ok (.iload_n 1, 1) := by decide +kernel
theorem dX9_step_62 : decode cX9_step 62 = .ok (.invokevirtual 115, 3) := by decide +kernel
theorem dX9_step_65 : decode cX9_step 65 = .ok (.invokestatic 166, 3) := by decide +kernel
theorem dX9_step_68 : decode cX9_step 68 = .ok (.ireturn, 1) := by decide +kernel
theorem dX9_step_69 : decode cX9_step 69 = .ok (.aload_n 0, 1) := by decide +kernel
theorem dX9_step_70 : decode cX9_step 70 = .ok (.iconst 0, 1) := by decide +kernel
theorem dX9_step_71 : decode cX9_step 71 = .ok (.iload_n 1, 1) := by decide +kernel
theorem dX9_step_72 : decode cX9_step 72 = .ok (.invokevirtual 122, 3) := by decide +kernel
theorem dX9_step_75 : decode cX9_step 75 = .ok (.ireturn, 1) := by decide +kernel
theorem dX9_step_76 : decode cX9_step 76 = .ok (.aload_n 0, 1) := by decide +kernel
theorem dX9_step_77 : decode cX9_step 77 = .ok (.getfield 25, 3) := by decide +kernel
theorem dX9_step_80 : decode cX9_step 80 = .ok (.iload_n 1, 1) := by decide +kernel
theorem dX9_step_81 : decode cX9_step 81 = .ok (.iaload, 1) := by decide +kernel
theorem dX9_step_82 : decode cX9_step 82 = .ok (.ireturn, 1) := by decide +kernel
theorem dX9_step_83 : decode cX9_step 83 = .ok (.aload_n 0, 1) := by decide +kernel
theorem dX9_step_84 : decode cX9_step 84 = .ok (.getfield 28, 3) := by decide +kernel
theorem dX9_step_87 : decode cX9_step 87 = .ok (.iload_n 1, 1) := by decide +kernel
theorem dX9_step_88 : decode cX9_step 88 = .ok (.iaload, 1) := by decide +kernel
theorem dX9_step_89 : decode cX9_step 89 = .ok (.ireturn, 1) := by decide +kernel
theorem dX9_step_90 : decode cX9_step 90 = .ok (.bipush (-2), 2) := by decide +kernel
theorem dX9_step_92 : decode cX9_step 92 = .ok (.ireturn, 1) := by decide +kernel
theorem dX9_keepAct_0 : decode cX9_keepAct 0 = .ok (.iconst 0, 1) := by decide +kernel
theorem dX9_keepAct_1 : decode cX9_keepAct 1 = .ok (.istore_n 1, 1) := by decide +kernel
theorem dX9_keepAct_2 : decode cX9_keepAct 2 = .ok (.iload_n 1, 1) := by decide +kernel
theorem dX9_keepAct_3 : decode cX9_keepAct 3 = .ok (.bipush 21, 2) := by decide +kernel
theorem dX9_keepAct_5 : decode cX9_keepAct 5 = .ok (.if_icmp .ge 29, 3) := by decide +kernel
theorem dX9_keepAct_8 : decode cX9_keepAct 8 = .ok (.aload_n 0, 1) := by decide +kernel
theorem dX9_keepAct_9 : decode cX9_keepAct 9 = .ok (.getfield 31, 3) := by decide +kernel
theorem dX9_keepAct_12 : decode cX9_keepAct 12 = .ok (.bipush 21, 2) := by decide +kernel
theorem dX9_keepAct_14 : decode cX9_keepAct 14 = .ok (.aload_n 0, 1) := by decide +kernel
theorem dX9_keepAct_15 : decode cX9_keepAct 15 = .ok (.getfield 169, 3) := by decide +kernel
theorem dX9_keepAct_18 : decode cX9_keepAct 18 = .ok (.imul, 1) := by decide +kernel
theorem dX9_keepAct_19 : decode cX9_keepAct 19 = .ok (.iload_n 1, 1) := by decide +kernel
theorem dX9_keepAct_20 : decode cX9_keepAct 20 = .ok (.iadd, 1) := by decide +kernel
theorem dX9_keepAct_21 : decode cX9_keepAct 21 = .ok (.aload_n 0, 1) := by decide +kernel
theorem dX9_keepAct_22 : decode cX9_keepAct 22 = .ok (.getfield 16, 3) := by decide +kernel
theorem dX9_keepAct_25 : decode cX9_keepAct 25 = .ok (.iload_n 1, 1) := by decide +kernel
theorem dX9_keepAct_26 : decode cX9_keepAct 26 = .ok (.iaload, 1) := by decide +kernel
theorem dX9_keepAct_27 : decode cX9_keepAct 27 = .ok (.iastore, 1) := by decide +kernel
theorem dX9_keepAct_28 : decode cX9_keepAct 28 = .ok (.iinc 1 1, 3) := by decide +kernel
theorem dX9_keepAct_31 : decode cX9_keepAct 31 = .ok (.goto (-29), 3) := by decide +kernel
theorem dX9_keepAct_34 : decode cX9_keepAct 34 = .ok (.aload_n 0, 1) := by decide +kernel
theorem dX9_keepAct_35 : decode cX9_keepAct 35 = .ok (.aload_n 0, 1) := by decide +kernel
theorem dX9_keepAct_36 : decode cX9_keepAct 36 = .ok (.getfield 169, 3) := by decide +kernel
theorem dX9_keepAct_39 : decode cX9_keepAct 39 = .ok (.iconst 1, 1) := by decide +kernel
theorem dX9_keepAct_40 : decode cX9_keepAct 40 = .ok (.iadd, 1) := by decide +kernel
theorem dX9_keepAct_41 : decode cX9_keepAct 41 = .ok (.bipush 14, 2) := by decide +kernel
theorem dX9_keepAct_43 : decode cX9_keepAct 43 = .ok (.irem, 1) := by decide +kernel
theorem dX9_keepAct_44 : decode cX9_keepAct 44 = .ok (.putfield 169, 3) := by decide +kernel
theorem dX9_keepAct_47 : decode cX9_keepAct 47 = .ok (.aload_n 0, 1) := by decide +kernel
theorem dX9_keepAct_48 : decode cX9_keepAct 48 = .ok (.aload_n 0, 1) := by decide +kernel
theorem dX9_keepAct_49 : decode cX9_keepAct 49 = .ok (.getfield 156, 3) := by decide +kernel
theorem dX9_keepAct_52 : decode cX9_keepAct 52 = .ok (.bipush 14, 2) := by decide +kernel
theorem dX9_keepAct_54 : decode cX9_keepAct 54 = .ok (.if_icmp .ge 12, 3) := by decide +kernel
theorem dX9_keepAct_57 : decode cX9_keepAct 57 = .ok (.aload_n 0, 1) := by decide +kernel
theorem dX9_keepAct_58 : decode cX9_keepAct 58 = .ok (.getfield 156, 3) := by decide +kernel
theorem dX9_keepAct_61 : decode cX9_keepAct 61 = .ok (.iconst 1, 1) := by decide +kernel
theorem dX9_keepAct_62 : decode cX9_keepAct 62 = .ok (.iadd, 1) := by decide +kernel
theorem dX9_keepAct_63 : decode cX9_keepAct 63 = .ok (.goto 5, 3) := by decide +kernel
theorem dX9_keepAct_66 : decode cX9_keepAct 66 = .ok (.bipush 14, 2) := by decide +kernel
theorem dX9_keepAct_68 : decode cX9_keepAct 68 = .ok (.putfield 156, 3) := by decide +kernel
theorem dX9_keepAct_71 : decode cX9_keepAct 71 = .ok (.return_, 1) := by decide +kernel
theorem dX9_takeTrial_0 : decode cX9_takeTrial 0 = .ok (.aload_n 0, 1) := by decide +kernel
theorem dX9_takeTrial_1 : decode cX9_takeTrial 1 = .ok (.iconst 1, 1) := by decide +kernel
theorem dX9_takeTrial_2 : decode cX9_takeTrial 2 = .ok (.invokevirtual 172, 3) := by decide +kernel
theorem dX9_takeTrial_5 : decode cX9_takeTrial 5 = .ok (.ifCond .ne 5, 3) := by decide +kernel
theorem dX9_takeTrial_8 : decode cX9_takeTrial 8 = .ok (.iconst 0, 1) := by decide +kernel
theorem dX9_takeTrial_9 : decode cX9_takeTrial 9 = .ok (.ireturn, 1) := by decide +kernel
theorem dX9_takeTrial_10 : decode cX9_takeTrial 10 = .ok (.aload_n 0, 1) := by decide +kernel
theorem dX9_takeTrial_11 : decode cX9_takeTrial 11 = .ok (.invokevirtual 175, 3) := by decide +kernel
theorem dX9_takeTrial_14 : decode cX9_takeTrial 14 = .ok (.aload_n 0, 1) := by decide +kernel
theorem dX9_takeTrial_15 : decode cX9_takeTrial 15 = .ok (.iconst 0, 1) := by decide +kernel
theorem dX9_takeTrial_16 : decode cX9_takeTrial 16 = .ok (.iconst 1, 1) := by decide +kernel
theorem dX9_takeTrial_17 : decode cX9_takeTrial 17 = .ok (.invokevirtual 178, 3) := by decide +kernel
theorem dX9_takeTrial_20 : decode cX9_takeTrial 20 = .ok (.iconst 1, 1) := by decide +kernel
theorem dX9_takeTrial_21 : decode cX9_takeTrial 21 = .ok (.ireturn, 1) := by decide +kernel
theorem dX9_drop_0 : decode cX9_drop 0 = .ok (.aload_n 0, 1) := by decide +kernel
theorem dX9_drop_1 : decode cX9_drop 1 = .ok (.iconst 0, 1) := by decide +kernel
theorem dX9_drop_2 : decode cX9_drop 2 = .ok (.iload_n 1, 1) := by decide +kernel
theorem dX9_drop_3 : decode cX9_drop 3 = .ok (.invokevirtual 159, 3) := by decide +kernel
theorem dX9_drop_6 : decode cX9_drop 6 = .ok (.ifCond .ne 5, 3) := by decide +kernel
theorem dX9_drop_9 : decode cX9_drop 9 = .ok (.iconst (-1), 1) := by decide +kernel
theorem dX9_drop_10 : decode cX9_drop 10 = .ok (.ireturn, 1) := by decide +kernel
theorem dX9_drop_11 : decode cX9_drop 11 = .ok (.aload_n 0, 1) := by decide +kernel
theorem dX9_drop_12 : decode cX9_drop 12 = .ok (.iconst 1, 1) := by decide +kernel
theorem dX9_drop_13 : decode cX9_drop 13 = .ok (.iconst 0, 1) := by decide +kernel
theorem dX9_drop_14 : decode cX9_drop 14 = .ok (.invokevirtual 178, 3) := by decide +kernel
theorem dX9_drop_17 : decode cX9_drop 17 = .ok (.aload_n 0, 1) := by decide +kernel
theorem dX9_drop_18 : decode cX9_drop 18 = .ok (.iconst 1, 1) := by decide +kernel
theorem dX9_drop_19 : decode cX9_drop 19 = .ok (.iload_n 1, 1) := by decide +kernel
theorem dX9_drop_20 : decode cX9_drop 20 = .ok (.invokevirtual 182, 3) := by decide +kernel
theorem dX9_drop_23 : decode cX9_drop 23 = .ok (.aload_n 0, 1) := by decide +kernel
theorem dX9_drop_24 : decode cX9_drop 24 = .ok (.invokevirtual 185, 3) := by decide +kernel
theorem dX9_drop_27 : decode cX9_drop 27 = .ok (.ifCond .eq 11, 3) := by decide +kernel
theorem dX9_drop_30 : decode cX9_drop 30 = .ok (.aload_n 0, 1) := by decide +kernel
theorem dX9_drop_31 : decode cX9_drop 31 = .ok (.iconst 0, 1) := by decide +kernel
theorem dX9_drop_32 : decode cX9_drop 32 = .ok (.invokevirtual 128, 3) := by decide +kernel
theorem dX9_drop_35 : decode cX9_drop 35 = .ok (.goto 5, 3) := by decide +kernel
theorem dX9_drop_38 : decode cX9_drop 38 = .ok (.bipush (-3), 2) := by decide +kernel
theorem dX9_drop_40 : decode cX9_drop 40 = .ok (.ireturn, 1) := by decide +kernel
theorem dX9_swap_0 : decode cX9_swap 0 = .ok (.aload_n 0, 1) := by decide +kernel
theorem dX9_swap_1 : decode cX9_swap 1 = .ok (.iconst 0, 1) := by decide +kernel
theorem dX9_swap_2 : decode cX9_swap 2 = .ok (.iload_n 1, 1) := by decide +kernel
theorem dX9_swap_3 : decode cX9_swap 3 = .ok (.invokevirtual 159, 3) := by decide +kernel
theorem dX9_swap_6 : decode cX9_swap 6 = .ok (.ifCond .eq 14, 3) := by decide +kernel
theorem dX9_swap_9 : decode cX9_swap 9 = .ok (.iload_n 1, 1) := by decide +kernel
theorem dX9_swap_10 : decode cX9_swap 10 = .ok (.aload_n 0, 1) := by decide +kernel
theorem dX9_swap_11 : decode cX9_swap 11 = .ok (.iconst 0, 1) := by decide +kernel
theorem dX9_swap_12 : decode cX9_swap 12 = .ok (.invokevirtual 128, 3) := by decide +kernel
theorem dX9_swap_15 : decode cX9_swap 15 = .ok (.iconst 1, 1) := by decide +kernel
theorem dX9_swap_16 : decode cX9_swap 16 = .ok (.isub, 1) := by decide +kernel
theorem dX9_swap_17 : decode cX9_swap 17 = .ok (.if_icmp .ne 5, 3) := by decide +kernel
theorem dX9_swap_20 : decode cX9_swap 20 = .ok (.iconst (-1), 1) := by decide +kernel
theorem dX9_swap_21 : decode cX9_swap 21 = .ok (.ireturn, 1) := by decide +kernel
theorem dX9_swap_22 : decode cX9_swap 22 = .ok (.aload_n 0, 1) := by decide +kernel
theorem dX9_swap_23 : decode cX9_swap 23 = .ok (.iconst 0, 1) := by decide +kernel
theorem dX9_swap_24 : decode cX9_swap 24 = .ok (.iload_n 1, 1) := by decide +kernel
theorem dX9_swap_25 : decode cX9_swap 25 = .ok (.invokevirtual 132, 3) := by decide +kernel
theorem dX9_swap_28 : decode cX9_swap 28 = .ok (.istore_n 2, 1) := by decide +kernel
theorem dX9_swap_29 : decode cX9_swap 29 = .ok (.aload_n 0, 1) := by decide +kernel
theorem dX9_swap_30 : decode cX9_swap 30 = .ok (.iconst 1, 1) := by decide +kernel
theorem dX9_swap_31 : decode cX9_swap 31 = .ok (.iconst 0, 1) := by decide +kernel
theorem dX9_swap_32 : decode cX9_swap 32 = .ok (.invokevirtual 178, 3) := by decide +kernel
theorem dX9_swap_35 : decode cX9_swap 35 = .ok (.aload_n 0, 1) := by decide +kernel
theorem dX9_swap_36 : decode cX9_swap 36 = .ok (.iconst 1, 1) := by decide +kernel
theorem dX9_swap_37 : decode cX9_swap 37 = .ok (.iload_n 1, 1) := by decide +kernel
theorem dX9_swap_38 : decode cX9_swap 38 = .ok (.invokevirtual 189, 3) := by decide +kernel
theorem dX9_swap_41 : decode cX9_swap 41 = .ok (.aload_n 0, 1) := by decide +kernel
theorem dX9_swap_42 : decode cX9_swap 42 = .ok (.invokevirtual 185, 3) := by decide +kernel
theorem dX9_swap_45 : decode cX9_swap 45 = .ok (.ifCond .eq 7, 3) := by decide +kernel
theorem dX9_swap_48 : decode cX9_swap 48 = .ok (.iload_n 2, 1) := by decide +kernel
theorem dX9_swap_49 : decode cX9_swap 49 = .ok (.goto 5, 3) := by decide +kernel
theorem dX9_swap_52 : decode cX9_swap 52 = .ok (.bipush (-3), 2) := by decide +kernel
theorem dX9_swap_54 : decode cX9_swap 54 = .ok (.ireturn, 1) := by decide +kernel
theorem dX9_undo_0 : decode cX9_undo 0 = .ok (.aload_n 0, 1) := by decide +kernel
theorem dX9_undo_1 : decode cX9_undo 1 = .ok (.getfield 156, 3) := by decide +kernel
theorem dX9_undo_4 : decode cX9_undo 4 = .ok (.ifCond .ne 6, 3) := by decide +kernel
theorem dX9_undo_7 : decode cX9_undo 7 = .ok (.bipush (-3), 2) := by decide +kernel
theorem dX9_undo_9 : decode cX9_undo 9 = .ok (.ireturn, 1) := by decide +kernel
theorem dX9_undo_10 : decode cX9_undo 10 = .ok (.aload_n 0, 1) := by decide +kernel
theorem dX9_undo_11 : decode cX9_undo 11 = .ok (.dup, 1) := by decide +kernel
theorem dX9_undo_12 : decode cX9_undo 12 = .ok (.getfield 156, 3) := by decide +kernel
theorem dX9_undo_15 : decode cX9_undo 15 = .ok (.iconst 1, 1) := by decide +kernel
theorem dX9_undo_16 : decode cX9_undo 16 = .ok (.isub, 1) := by decide +kernel
theorem dX9_undo_17 : decode cX9_undo 17 = .ok (.putfield 156, 3) := by decide +kernel
theorem dX9_undo_20 : decode cX9_undo 20 = .ok (.aload_n 0, 1) := by decide +kernel
theorem dX9_undo_21 : decode cX9_undo 21 = .ok (.aload_n 0, 1) := by decide +kernel
theorem dX9_undo_22 : decode cX9_undo 22 = .ok (.getfield 169, 3) := by decide +kernel
theorem dX9_undo_25 : decode cX9_undo 25 = .ok (.bipush 13, 2) := by decide +kernel
theorem dX9_undo_27 : decode cX9_undo 27 = .ok (.iadd, 1) := by decide +kernel
theorem dX9_undo_28 : decode cX9_undo 28 = .ok (.bipush 14, 2) := by decide +kernel
theorem dX9_undo_30 : decode cX9_undo 30 = .ok (.irem, 1) := by decide +kernel
theorem dX9_undo_31 : decode cX9_undo 31 = .ok (.putfield 169, 3) := by decide +kernel
theorem dX9_undo_34 : decode cX9_undo 34 = .ok (.iconst 0, 1) := by decide +kernel
theorem dX9_undo_35 : decode cX9_undo 35 = .ok (.istore_n 1, 1) := by decide +kernel
theorem dX9_undo_36 : decode cX9_undo 36 = .ok (.iload_n 1, 1) := by decide +kernel
theorem dX9_undo_37 : decode cX9_undo 37 = .ok (.bipush 21, 2) := by decide +kernel
theorem dX9_undo_39 : decode cX9_undo 39 = .ok (.if_icmp .ge 29, 3) := by decide +kernel
theorem dX9_undo_42 : decode cX9_undo 42 = .ok (.aload_n 0, 1) := by decide +kernel
theorem dX9_undo_43 : decode cX9_undo 43 = .ok (.getfield 16, 3) := by decide +kernel
theorem dX9_undo_46 : decode cX9_undo 46 = .ok (.iload_n 1, 1) := by decide +kernel
theorem dX9_undo_47 : decode cX9_undo 47 = .ok (.aload_n 0, 1) := by decide +kernel
theorem dX9_undo_48 : decode cX9_undo 48 = .ok (.getfield 31, 3) := by decide +kernel
theorem dX9_undo_51 : decode cX9_undo 51 = .ok (.bipush 21, 2) := by decide +kernel
theorem dX9_undo_53 : decode cX9_undo 53 = .ok (.aload_n 0, 1) := by decide +kernel
theorem dX9_undo_54 : decode cX9_undo 54 = .ok (.getfield 169, 3) := by decide +kernel
theorem dX9_undo_57 : decode cX9_undo 57 = .ok (.imul, 1) := by decide +kernel
theorem dX9_undo_58 : decode cX9_undo 58 = .ok (.iload_n 1, 1) := by decide +kernel
theorem dX9_undo_59 : decode cX9_undo 59 = .ok (.iadd, 1) := by decide +kernel
theorem dX9_undo_60 : decode cX9_undo 60 = .ok (.iaload, 1) := by decide +kernel
theorem dX9_undo_61 : decode cX9_undo 61 = .ok (.iastore, 1) := by decide +kernel
theorem dX9_undo_62 : decode cX9_undo 62 = .ok (.iinc 1 1, 3) := by decide +kernel
theorem dX9_undo_65 : decode cX9_undo 65 = .ok (.goto (-29), 3) := by decide +kernel
theorem dX9_undo_68 : decode cX9_undo 68 = .ok (.aload_n 0, 1) := by decide +kernel
theorem dX9_undo_69 : decode cX9_undo 69 = .ok (.getfield 156, 3) := by decide +kernel
theorem dX9_undo_72 : decode cX9_undo 72 = .ok (.ireturn, 1) := by decide +kernel
theorem dX9_guardsOf_0 : decode cX9_guardsOf 0 = .ok (.aload_n 0, 1) := by decide +kernel
theorem dX9_guardsOf_1 : decode cX9_guardsOf 1 = .ok (.iload_n 1, 1) := by decide +kernel
theorem dX9_guardsOf_2 : decode cX9_guardsOf 2 = .ok (.iload_n 2, 1) := by decide +kernel
theorem dX9_guardsOf_3 : decode cX9_guardsOf 3 = .ok (.invokevirtual 115, 3) := by decide +kernel
theorem dX9_guardsOf_6 : decode cX9_guardsOf 6 = .ok (.iconst 3, 1) := by decide +kernel
theorem dX9_guardsOf_7 : decode cX9_guardsOf 7 = .ok (.if_icmp .ne 19, 3) := by decide +kernel
theorem dX9_guardsOf_10 : decode cX9_guardsOf 10 = .ok (.aload_n 0, 1) := by decide +kernel
theorem dX9_guardsOf_11 : decode cX9_guardsOf 11 = .ok (.getfield 25, 3) := by decide +kernel
theorem dX9_guardsOf_14 : decode cX9_guardsOf 14 = .ok (.iload_n 2, 1) := by decide +kernel
theorem dX9_guardsOf_15 : decode cX9_guardsOf 15 = .ok (.iaload, 1) := by decide +kernel
theorem dX9_guardsOf_16 : decode cX9_guardsOf 16 = .ok (.aload_n 0, 1) := by decide +kernel
theorem dX9_guardsOf_17 : decode cX9_guardsOf 17 = .ok (.getfield 28, 3) := by decide +kernel
theorem dX9_guardsOf_20 : decode cX9_guardsOf 20 = .ok (.iload_n 2, 1) := by decide +kernel
theorem dX9_guardsOf_21 : decode cX9_guardsOf 21 = .ok (.iaload, 1) := by decide +kernel
theorem dX9_guardsOf_22 : decode cX9_guardsOf 22 = .ok (.ior, 1) := by decide +kernel
theorem dX9_guardsOf_23 : decode cX9_guardsOf 23 = .ok (.goto 9, 3) := by decide +kernel
theorem dX9_guardsOf_26 : decode cX9_guardsOf 26 = .ok (.aload_n 0, 1) := by decide +kernel
theorem dX9_guardsOf_27 : decode cX9_guardsOf 27 = .ok (.getfield 25, 3) := by decide +kernel
theorem dX9_guardsOf_30 : decode cX9_guardsOf 30 = .ok (.iload_n 2, 1) := by decide +kernel
theorem dX9_guardsOf_31 : decode cX9_guardsOf 31 = .ok (.iaload, 1) := by decide +kernel
theorem dX9_guardsOf_32 : decode cX9_guardsOf 32 = .ok (.ireturn, 1) := by decide +kernel
theorem dX9_watch_0 : decode cX9_watch 0 = .ok (.aload_n 0, 1) := by decide +kernel
theorem dX9_watch_1 : decode cX9_watch 1 = .ok (.iload_n 1, 1) := by decide +kernel
theorem dX9_watch_2 : decode cX9_watch 2 = .ok (.iload_n 2, 1) := by decide +kernel
theorem dX9_watch_3 : decode cX9_watch 3 = .ok (.invokevirtual 115, 3) := by decide +kernel
theorem dX9_watch_6 : decode cX9_watch 6 = .ok (.iconst 4, 1) := by decide +kernel
theorem dX9_watch_7 : decode cX9_watch 7 = .ok (.if_icmp .ne 7, 3) := by decide +kernel
theorem dX9_watch_10 : decode cX9_watch 10 = .ok (.iconst 1, 1) := by decide +kernel
theorem dX9_watch_11 : decode cX9_watch 11 = .ok (.goto 4, 3) := by decide +kernel
theorem dX9_watch_14 : decode cX9_watch 14 = .ok (.iconst 0, 1) := by decide +kernel
theorem dX9_watch_15 : decode cX9_watch 15 = .ok (.istore 4, 2) := by decide +kernel
theorem dX9_watch_17 : decode cX9_watch 17 = .ok (.aload_n 0, 1) := by decide +kernel
theorem dX9_watch_18 : decode cX9_watch 18 = .ok (.iload_n 1, 1) := by decide +kernel
theorem dX9_watch_19 : decode cX9_watch 19 = .ok (.iload_n 2, 1) := by decide +kernel
theorem dX9_watch_20 : decode cX9_watch 20 = .ok (.invokevirtual 192, 3) := by decide +kernel
theorem dX9_watch_23 : decode cX9_watch 23 = .ok (.iload_n 3, 1) := by decide +kernel
theorem dX9_watch_24 : decode cX9_watch 24 = .ok (.iand, 1) := by decide +kernel
theorem dX9_watch_25 : decode cX9_watch 25 = .ok (.istore 5, 2) := by decide +kernel
theorem dX9_watch_27 : decode cX9_watch 27 = .ok (.aload_n 0, 1) := by decide +kernel
theorem dX9_watch_28 : decode cX9_watch 28 = .ok (.iload_n 1, 1) := by decide +kernel
theorem dX9_watch_29 : decode cX9_watch 29 = .ok (.iload_n 2, 1) := by decide +kernel
theorem dX9_watch_30 : decode cX9_watch 30 = .ok (.invokevirtual 132, 3) := by decide +kernel
theorem dX9_watch_33 : decode cX9_watch 33 = .ok (.istore 6, 2) := by decide +kernel
theorem dX9_watch_35 : decode cX9_watch 35 = .ok (.aload_n 0, 1) := by decide +kernel
theorem dX9_watch_36 : decode cX9_watch 36 = .ok (.dup, 1) := by decide +kernel
theorem dX9_watch_37 : decode cX9_watch 37 = .ok (.getfield 195, 3) := by decide +kernel
theorem dX9_watch_40 : decode cX9_watch 40 = .ok (.iconst 1, 1) := by decide +kernel
theorem dX9_watch_41 : decode cX9_watch 41 = .ok (.iadd, 1) := by decide +kernel
theorem dX9_watch_42 : decode cX9_watch 42 = .ok (.putfield 195, 3) := by decide +kernel
theorem dX9_watch_45 : decode cX9_watch 45 = .ok (.aload_n 0, 1) := by decide +kernel
theorem dX9_watch_46 : decode cX9_watch 46 = .ok (.getfield 198, 3) := by decide +kernel
theorem dX9_watch_49 : decode cX9_watch 49 = .ok (.ifCond .ne 17, 3) := by decide +kernel
theorem dX9_watch_52 : decode cX9_watch 52 = .ok (.aload_n 0, 1) := by decide +kernel
theorem dX9_watch_53 : decode cX9_watch 53 = .ok (.iconst 1, 1) := by decide +kernel
theorem dX9_watch_54 : decode cX9_watch 54 = .ok (.putfield 198, 3) := by decide +kernel
theorem dX9_watch_57 : decode cX9_watch 57 = .ok (.aload_n 0, 1) := by decide +kernel
theorem dX9_watch_58 : decode cX9_watch 58 = .ok (.iload 6, 2) := by decide +kernel
theorem dX9_watch_60 : decode cX9_watch 60 = .ok (.putfield 201, 3) := by decide +kernel
theorem dX9_watch_63 : decode cX9_watch 63 = .ok (.goto 79, 3) := by decide +kernel
theorem dX9_watch_66 : decode cX9_watch 66 = .ok (.aload_n 0, 1) := by decide +kernel
theorem dX9_watch_67 : decode cX9_watch 67 = .ok (.getfield 198, 3) := by decide +kernel
theorem dX9_watch_70 : decode cX9_watch 70 = .ok (.iconst 1, 1) := by decide +kernel
theorem dX9_watch_71 : decode cX9_watch 71 = .ok (.if_icmp .ne 35, 3) := by decide +kernel
theorem dX9_watch_74 : decode cX9_watch 74 = .ok (.iload 6, 2) := by decide +kernel
theorem dX9_watch_76 : decode cX9_watch 76 = .ok (.aload_n 0, 1) := by decide +kernel
theorem dX9_watch_77 : decode cX9_watch 77 = .ok (.getfield 201, 3) := by decide +kernel
theorem dX9_watch_80 : decode cX9_watch 80 = .ok (.if_icmp .eq 26, 3) := by decide +kernel
theorem dX9_watch_83 : decode cX9_watch 83 = .ok (.aload_n 0, 1) := by decide +kernel
theorem dX9_watch_84 : decode cX9_watch 84 = .ok (.iload 4, 2) := by decide +kernel
theorem dX9_watch_86 : decode cX9_watch 86 = .ok (.ifCond .eq 7, 3) := by decide +kernel
theorem dX9_watch_89 : decode cX9_watch 89 = .ok (.iconst 3, 1) := by decide +kernel
theorem dX9_watch_90 : decode cX9_watch 90 = .ok (.goto 4, 3) := by decide +kernel
theorem dX9_watch_93 : decode cX9_watch 93 = .ok (.iconst 2, 1) := by decide +kernel
theorem dX9_watch_94 : decode cX9_watch 94 = .ok (.putfield 198, 3) := by decide +kernel
theorem dX9_watch_97 : decode cX9_watch 97 = .ok (.aload_n 0, 1) := by decide +kernel
theorem dX9_watch_98 : decode cX9_watch 98 = .ok (.iload 5, 2) := by decide +kernel
theorem dX9_watch_100 : decode cX9_watch 100 = .ok (.putfield 204, 3) := by decide +kernel
theorem dX9_watch_103 : decode cX9_watch 103 = .ok (.goto 39, 3) := by decide +kernel
theorem dX9_watch_106 : decode cX9_watch 106 = .ok (.aload_n 0, 1) := by decide +kernel
theorem dX9_watch_107 : decode cX9_watch 107 = .ok (.getfield 198, 3) := by decide +kernel
theorem dX9_watch_110 : decode cX9_watch 110 = .ok (.iconst 1, 1) := by decide +kernel
theorem dX9_watch_111 : decode cX9_watch 111 = .ok (.if_icmp .le 31, 3) := by decide +kernel
theorem dX9_watch_114 : decode cX9_watch 114 = .ok (.aload_n 0, 1) := by decide +kernel
theorem dX9_watch_115 : decode cX9_watch 115 = .ok (.iload 4, 2) := by decide +kernel
theorem dX9_watch_117 : decode cX9_watch 117 = .ok (.ifCond .eq 7, 3) := by decide +kernel
theorem dX9_watch_120 : decode cX9_watch 120 = .ok (.iconst 3, 1) := by decide +kernel
theorem dX9_watch_121 : decode cX9_watch 121 = .ok (.goto 7, 3) := by decide +kernel
theorem dX9_watch_124 : decode cX9_watch 124 = .ok (.aload_n 0, 1) := by decide +kernel
theorem dX9_watch_125 : decode cX9_watch 125 = .ok (.getfield 198, 3) := by decide +kernel
theorem dX9_watch_128 : decode cX9_watch 128 = .ok (.putfield 198, 3) := by decide +kernel
theorem dX9_watch_131 : decode cX9_watch 131 = .ok (.aload_n 0, 1) := by decide +kernel
theorem dX9_watch_132 : decode cX9_watch 132 = .ok (.dup, 1) := by decide +kernel
theorem dX9_watch_133 : decode cX9_watch 133 = .ok (.getfield 204, 3) := by decide +kernel
theorem dX9_watch_136 : decode cX9_watch 136 = .ok (.iload 5, 2) := by decide +kernel
theorem dX9_watch_138 : decode cX9_watch 138 = .ok (.iand, 1) := by decide +kernel
theorem dX9_watch_139 : decode cX9_watch 139 = .ok (.putfield 204, 3) := by decide +kernel
theorem dX9_watch_142 : decode cX9_watch 142 = .ok (.aload_n 0, 1) := by decide +kernel
theorem dX9_watch_143 : decode cX9_watch 143 = .ok (.aload_n 0, 1) := by decide +kernel
theorem dX9_watch_144 : decode cX9_watch 144 = .ok (.getfield 207, 3) := by decide +kernel
theorem dX9_watch_147 : decode cX9_watch 147 = .ok (.bipush (-9), 2) := by decide +kernel
theorem dX9_watch_149 : decode cX9_watch 149 = .ok (.if_icmp .ne 22, 3) := by decide +kernel
theorem dX9_watch_152 : decode cX9_watch 152 = .ok (.aload_n 0, 1) := by decide +kernel
theorem dX9_watch_153 : decode cX9_watch 153 = .ok (.getfield 198, 3) := by decide +kernel
theorem dX9_watch_156 : decode cX9_watch 156 = .ok (.iconst 3, 1) := by decide +kernel
theorem dX9_watch_157 : decode cX9_watch 157 = .ok (.if_icmp .ne 14, 3) := by decide +kernel
theorem dX9_watch_160 : decode cX9_watch 160 = .ok (.aload_n 0, 1) := by decide +kernel
theorem dX9_watch_161 : decode cX9_watch 161 = .ok (.getfield 204, 3) := by decide +kernel
theorem dX9_watch_164 : decode cX9_watch 164 = .ok (.ifCond .ne 7, 3) := by decide +kernel
theorem dX9_watch_167 : decode cX9_watch 167 = .ok (.iload_n 2, 1) := by decide +kernel
theorem dX9_watch_168 : decode cX9_watch 168 = .ok (.goto 7, 3) := by decide +kernel
theorem dX9_watch_171 : decode cX9_watch 171 = .ok (.aload_n 0, 1) := by decide +kernel
theorem dX9_watch_172 : decode cX9_watch 172 = .ok (.getfield 207, 3) := by decide +kernel
theorem dX9_watch_175 : decode cX9_watch 175 = .ok (.putfield 207, 3) := by decide +kernel
theorem dX9_watch_178 : decode cX9_watch 178 = .ok (.return_, 1) := by decide +kernel
theorem dX9_watchCell_0 : decode cX9_watchCell 0 = .ok (.aload_n 0, 1) := by decide +kernel
theorem dX9_watchCell_1 : decode cX9_watchCell 1 = .ok (.iconst 0, 1) := by decide +kernel
theorem dX9_watchCell_2 : decode cX9_watchCell 2 = .ok (.putfield 198, 3) := by decide +kernel
theorem dX9_watchCell_5 : decode cX9_watchCell 5 = .ok (.aload_n 0, 1) := by decide +kernel
theorem dX9_watchCell_6 : decode cX9_watchCell 6 = .ok (.bipush 15, 2) := by decide +kernel
theorem dX9_watchCell_8 : decode cX9_watchCell 8 = .ok (.putfield 204, 3) := by decide +kernel
theorem dX9_watchCell_11 : decode cX9_watchCell 11 = .ok (.aload_n 0, 1) := by decide +kernel
theorem dX9_watchCell_12 : decode cX9_watchCell 12 = .ok (.bipush (-9), 2) := by decide +kernel
theorem dX9_watchCell_14 : decode cX9_watchCell 14 = .ok (.putfield 201, 3) := by decide +kernel
theorem dX9_watchCell_17 : decode cX9_watchCell 17 = .ok (.aload_n 0, 1) := by decide +kernel
theorem dX9_watchCell_18 : decode cX9_watchCell 18 = .ok (.bipush (-9), 2) := by decide +kernel
theorem dX9_watchCell_20 : decode cX9_watchCell 20 = .ok (.putfield 207, 3) := by decide +kernel
theorem dX9_watchCell_23 : decode cX9_watchCell 23 = .ok (.aload_n 0, 1) := by decide +kernel
theorem dX9_watchCell_24 : decode cX9_watchCell 24 = .ok (.iconst 0, 1) := by decide +kernel
theorem dX9_watchCell_25 : decode cX9_watchCell 25 = .ok (.putfield 195, 3) := by decide +kernel
theorem dX9_watchCell_28 : decode cX9_watchCell 28 = .ok (.iconst 0, 1) := by decide +kernel
theorem dX9_watchCell_29 : decode cX9_watchCell 29 = .ok (.istore 6, 2) := by decide +kernel
theorem dX9_watchCell_31 : decode cX9_watchCell 31 = .ok (.iload 6, 2) := by decide +kernel
theorem dX9_watchCell_33 : decode cX9_watchCell 33 = .ok (.iload_n 3, 1) := by decide +kernel
theorem dX9_watchCell_34 : decode cX9_watchCell 34 = .ok (.if_icmp .ge 39, 3) := by decide +kernel
theorem dX9_watchCell_37 : decode cX9_watchCell 37 = .ok (.aload_n 0, 1) := by decide +kernel
theorem dX9_watchCell_38 : decode cX9_watchCell 38 = .ok (.iload_n 1, 1) := by decide +kernel
theorem dX9_watchCell_39 : decode cX9_watchCell 39 = .ok (.iload 6, 2) := by decide +kernel
theorem dX9_watchCell_41 : decode cX9_watchCell 41 = .ok (.iload_n 2, 1) := by decide +kernel
theorem dX9_watchCell_42 : decode cX9_watchCell 42 = .ok (.invokevirtual 210, 3) := by decide +kernel
theorem dX9_watchCell_45 : decode cX9_watchCell 45 = .ok (.ifCond .eq 22, 3) := by decide +kernel
theorem dX9_watchCell_48 : decode cX9_watchCell 48 = .ok (.iload 5, 2) := by decide +kernel
theorem dX9_watchCell_50 : decode cX9_watchCell 50 = .ok (.iload 6, 2) := by decide +kernel
theorem dX9_watchCell_52 : decode cX9_watchCell 52 = .ok (.invokestatic 93, 3) := by decide +kernel
theorem dX9_watchCell_55 : decode cX9_watchCell 55 = .ok (.ifCond .ne 12, 3) := by decide +kernel
theorem dX9_watchCell_58 : decode cX9_watchCell 58 = .ok (.aload_n 0, 1) := by decide +kernel
theorem dX9_watchCell_59 : decode cX9_watchCell 59 = .ok (.iload_n 1, 1) := by decide +kernel
theorem dX9_watchCell_60 : decode cX9_watchCell 60 = .ok (.iload 6, 2) := by decide +kernel
theorem dX9_watchCell_62 : decode cX9_watchCell 62 = .ok (.iload 4, 2) := by decide +kernel
theorem dX9_watchCell_64 : decode cX9_watchCell 64 = .ok (.invokevirtual 213, 3) := by decide +kernel
theorem dX9_watchCell_67 : decode cX9_watchCell 67 = .ok (.iinc 6 1, 3) := by decide +kernel
theorem dX9_watchCell_70 : decode cX9_watchCell 70 = .ok (.goto (-39), 3) := by decide +kernel
theorem dX9_watchCell_73 : decode cX9_watchCell 73 = .ok (.return_, 1) := by decide +kernel
theorem dX9_isFour_0 : decode cX9_isFour 0 = .ok (.iload_n 0, 1) := by decide +kernel
theorem dX9_isFour_1 : decode cX9_isFour 1 = .ok (.i2l, 1) := by decide +kernel
theorem dX9_isFour_2 : decode cX9_isFour 2 = .ok (.lconst 0, 1) := by decide +kernel
theorem dX9_isFour_3 : decode cX9_isFour 3 = .ok (.ldc2_w 87, 3) := by decide +kernel
theorem dX9_isFour_6 : decode cX9_isFour 6 = .ok (.invokestatic 89, 3) := by decide +kernel
theorem dX9_isFour_9 : decode cX9_isFour 9 = .ok (.ireturn, 1) := by decide +kernel
theorem dX9_cell_0 : decode cX9_cell 0 = .ok (.iload_n 1, 1) := by decide +kernel
theorem dX9_cell_1 : decode cX9_cell 1 = .ok (.invokestatic 216, 3) := by decide +kernel
theorem dX9_cell_4 : decode cX9_cell 4 = .ok (.ifCond .ne 5, 3) := by decide +kernel
theorem dX9_cell_7 : decode cX9_cell 7 = .ok (.iconst (-1), 1) := by decide +kernel
theorem dX9_cell_8 : decode cX9_cell 8 = .ok (.ireturn, 1) := by decide +kernel
theorem dX9_cell_9 : decode cX9_cell 9 = .ok (.iload_n 2, 1) := by decide +kernel
theorem dX9_cell_10 : decode cX9_cell 10 = .ok (.i2l, 1) := by decide +kernel
theorem dX9_cell_11 : decode cX9_cell 11 = .ok (.lconst 0, 1) := by decide +kernel
theorem dX9_cell_12 : decode cX9_cell 12 = .ok (.aload_n 0, 1) := by decide +kernel
theorem dX9_cell_13 : decode cX9_cell 13 = .ok (.iconst 0, 1) := by decide +kernel
theorem dX9_cell_14 : decode cX9_cell 14 = .ok (.invokevirtual 128, 3) := by decide +kernel
theorem dX9_cell_17 : decode cX9_cell 17 = .ok (.i2l, 1) := by decide +kernel
theorem dX9_cell_18 : decode cX9_cell 18 = .ok (.invokestatic 89, 3) := by decide +kernel
theorem dX9_cell_21 : decode cX9_cell 21 = .ok (.ifCond .eq 15, 3) := by decide +kernel
theorem dX9_cell_24 : decode cX9_cell 24 = .ok (.iload_n 3, 1) := by decide +kernel
theorem dX9_cell_25 : decode cX9_cell 25 = .ok (.i2l, 1) := by decide +kernel
theorem dX9_cell_26 : decode cX9_cell 26 = .ok (.lconst 0, 1) := by decide +kernel
theorem dX9_cell_27 : decode cX9_cell 27 = .ok (.ldc2_w 219, 3) := by decide +kernel
theorem dX9_cell_30 : decode cX9_cell 30 = .ok (.invokestatic 89, 3) := by decide +kernel
theorem dX9_cell_33 : decode cX9_cell 33 = .ok (.ifCond .ne 6, 3) := by decide +kernel
theorem dX9_cell_36 : decode cX9_cell 36 = .ok (.bipush (-2), 2) := by decide +kernel
theorem dX9_cell_38 : decode cX9_cell 38 = .ok (.ireturn, 1) := by decide +kernel
theorem dX9_cell_39 : decode cX9_cell 39 = .ok (.aload_n 0, 1) := by decide +kernel
theorem dX9_cell_40 : decode cX9_cell 40 = .ok (.iconst 0, 1) := by decide +kernel
theorem dX9_cell_41 : decode cX9_cell 41 = .ok (.invokevirtual 162, 3) := by decide +kernel
theorem dX9_cell_44 : decode cX9_cell 44 = .ok (.aload_n 0, 1) := by decide +kernel
theorem dX9_cell_45 : decode cX9_cell 45 = .ok (.iconst 0, 1) := by decide +kernel
theorem dX9_cell_46 : decode cX9_cell 46 = .ok (.iload_n 1, 1) := by decide +kernel
theorem dX9_cell_47 : decode cX9_cell 47 = .ok (.iload_n 2, 1) := by decide +kernel
theorem dX9_cell_48 : decode cX9_cell 48 = .ok (.bipush 15, 2) := by decide +kernel
theorem dX9_cell_50 : decode cX9_cell 50 = .ok (.iconst 0, 1) := by decide +kernel
theorem dX9_cell_51 : decode cX9_cell 51 = .ok (.invokevirtual 221, 3) := by decide +kernel
theorem dX9_cell_54 : decode cX9_cell 54 = .ok (.iload_n 3, 1) := by decide +kernel
theorem dX9_cell_55 : decode cX9_cell 55 = .ok (.tableswitch 75 0 3 #[29, 34, 52, 70], 29) := by decide +kernel
theorem dX9_cell_84 : decode cX9_cell 84 = .ok (.aload_n 0, 1) := by decide +kernel
theorem dX9_cell_85 : decode cX9_cell 85 = .ok (.getfield 198, 3) := by decide +kernel
theorem dX9_cell_88 : decode cX9_cell 88 = .ok (.ireturn, 1) := by decide +kernel
theorem dX9_cell_89 : decode cX9_cell 89 = .ok (.aload_n 0, 1) := by decide +kernel
theorem dX9_cell_90 : decode cX9_cell 90 = .ok (.getfield 198, 3) := by decide +kernel
theorem dX9_cell_93 : decode cX9_cell 93 = .ok (.iconst 2, 1) := by decide +kernel
theorem dX9_cell_94 : decode cX9_cell 94 = .ok (.if_icmp .ge 8, 3) := by decide +kernel
theorem dX9_cell_97 : decode cX9_cell 97 = .ok (.bipush 15, 2) := by decide +kernel
theorem dX9_cell_99 : decode cX9_cell 99 = .ok (.goto 7, 3) := by decide +kernel
theorem dX9_cell_102 : decode cX9_cell 102 = .ok (.aload_n 0, 1) := by decide +kernel
theorem dX9_cell_103 : decode cX9_cell 103 = .ok (.getfield 204, 3) := by decide +kernel
theorem dX9_cell_106 : decode cX9_cell 106 = .ok (.ireturn, 1) := by decide +kernel
theorem dX9_cell_107 : decode cX9_cell 107 = .ok (.aload_n 0, 1) := by decide +kernel
theorem dX9_cell_108 : decode cX9_cell 108 = .ok (.getfield 198, 3) := by decide +kernel
theorem dX9_cell_111 : decode cX9_cell 111 = .ok (.iconst 1, 1) := by decide +kernel
theorem dX9_cell_112 : decode cX9_cell 112 = .ok (.if_icmp .ne 10, 3) := by decide +kernel
theorem dX9_cell_115 : decode cX9_cell 115 = .ok (.aload_n 0, 1) := by decide +kernel
theorem dX9_cell_116 : decode cX9_cell 116 = .ok (.getfield 201, 3) := by decide +kernel
theorem dX9_cell_119 : decode cX9_cell 119 = .ok (.goto 5, 3) := by decide +kernel
theorem dX9_cell_122 : decode cX9_cell 122 = .ok (.bipush (-9), 2) := by decide +kernel
theorem dX9_cell_124 : decode cX9_cell 124 = .ok (.ireturn, 1) := by decide +kernel
theorem dX9_cell_125 : decode cX9_cell 125 = .ok (.aload_n 0, 1) := by decide +kernel
theorem dX9_cell_126 : decode cX9_cell 126 = .ok (.getfield 207, 3) := by decide +kernel
theorem dX9_cell_129 : decode cX9_cell 129 = .ok (.ireturn, 1) := by decide +kernel
theorem dX9_cell_130 : decode cX9_cell 130 = .ok (.aload_n 0, 1) := by decide +kernel
theorem dX9_cell_131 : decode cX9_cell 131 = .ok (.getfield 195, 3) := by decide +kernel
theorem dX9_cell_134 : decode cX9_cell 134 = .ok (.ireturn, 1) := by decide +kernel
theorem dX9_flaggedOn_0 : decode cX9_flaggedOn 0 = .ok (.iconst 0, 1) := by decide +kernel
theorem dX9_flaggedOn_1 : decode cX9_flaggedOn 1 = .ok (.istore_n 3, 1) := by decide +kernel
theorem dX9_flaggedOn_2 : decode cX9_flaggedOn 2 = .ok (.iconst 0, 1) := by decide +kernel
theorem dX9_flaggedOn_3 : decode cX9_flaggedOn 3 = .ok (.istore 4, 2) := by decide +kernel
theorem dX9_flaggedOn_5 : decode cX9_flaggedOn 5 = .ok (.iload 4, 2) := by decide +kernel
theorem dX9_flaggedOn_7 : decode cX9_flaggedOn 7 = .ok (.iconst 4, 1) := by decide +kernel
theorem dX9_flaggedOn_8 : decode cX9_flaggedOn 8 = .ok (.if_icmp .ge 43, 3) := by decide +kernel
theorem dX9_flaggedOn_11 : decode cX9_flaggedOn 11 = .ok (.aload_n 0, 1) := by decide +kernel
theorem dX9_flaggedOn_12 : decode cX9_flaggedOn 12 = .ok (.iload_n 1, 1) := by decide +kernel
theorem dX9_flaggedOn_13 : decode cX9_flaggedOn 13 = .ok (.iload 4, 2) := by decide +kernel
theorem dX9_flaggedOn_15 : decode cX9_flaggedOn 15 = .ok (.aload_n 0, 1) := by decide +kernel
theorem dX9_flaggedOn_16 : decode cX9_flaggedOn 16 = .ok (.iload_n 1, 1) := by decide +kernel
theorem dX9_flaggedOn_17 : decode cX9_flaggedOn 17 = .ok (.invokevirtual 128, 3) := by decide +kernel
theorem dX9_flaggedOn_20 : decode cX9_flaggedOn 20 = .ok (.iload_n 2, 1) := by decide +kernel
theorem dX9_flaggedOn_21 : decode cX9_flaggedOn 21 = .ok (.iconst 0, 1) := by decide +kernel
theorem dX9_flaggedOn_22 : decode cX9_flaggedOn 22 = .ok (.invokevirtual 221, 3) := by decide +kernel
theorem dX9_flaggedOn_25 : decode cX9_flaggedOn 25 = .ok (.iload_n 3, 1) := by decide +kernel
theorem dX9_flaggedOn_26 : decode cX9_flaggedOn 26 = .ok (.aload_n 0, 1) := by decide +kernel
theorem dX9_flaggedOn_27 : decode cX9_flaggedOn 27 = .ok (.getfield 207, 3) := by decide +kernel
theorem dX9_flaggedOn_30 : decode cX9_flaggedOn 30 = .ok (.bipush (-9), 2) := by decide +kernel
theorem dX9_flaggedOn_32 : decode cX9_flaggedOn 32 = .ok (.if_icmp .ne 7, 3) := by decide +kernel
theorem dX9_flaggedOn_35 : decode cX9_flaggedOn 35 = .ok (.iconst 0, 1) := by decide +kernel
theorem dX9_flaggedOn_36 : decode cX9_flaggedOn 36 = .ok (.goto 7, 3) := by decide +kernel
theorem dX9_flaggedOn_39 : decode cX9_flaggedOn 39 = .ok (.iconst 1, 1) := by decide +kernel
theorem dX9_flaggedOn_40 : decode cX9_flaggedOn 40 = .ok (.iload 4, 2) := by decide +kernel
theorem dX9_flaggedOn_42 : decode cX9_flaggedOn 42 = .ok (.ishl, 1) := by decide +kernel
theorem dX9_flaggedOn_43 : decode cX9_flaggedOn 43 = .ok (.ior, 1) := by decide +kernel
theorem dX9_flaggedOn_44 : decode cX9_flaggedOn 44 = .ok (.istore_n 3, 1) := by decide +kernel
theorem dX9_flaggedOn_45 : decode cX9_flaggedOn 45 = .ok (.iinc 4 1, 3) := by decide +kernel
theorem dX9_flaggedOn_48 : decode cX9_flaggedOn 48 = .ok (.goto (-43), 3) := by decide +kernel
theorem dX9_flaggedOn_51 : decode cX9_flaggedOn 51 = .ok (.iload_n 3, 1) := by decide +kernel
theorem dX9_flaggedOn_52 : decode cX9_flaggedOn 52 = .ok (.ireturn, 1) := by decide +kernel
theorem dX9_allBefore_0 : decode cX9_allBefore 0 = .ok (.iconst 0, 1) := by decide +kernel
theorem dX9_allBefore_1 : decode cX9_allBefore 1 = .ok (.istore 4, 2) := by decide +kernel
theorem dX9_allBefore_3 : decode cX9_allBefore 3 = .ok (.iconst 0, 1) := by decide +kernel
theorem dX9_allBefore_4 : decode cX9_allBefore 4 = .ok (.istore 5, 2) := by decide +kernel
theorem dX9_allBefore_6 : decode cX9_allBefore 6 = .ok (.iload 5, 2) := by decide +kernel
theorem dX9_allBefore_8 : decode cX9_allBefore 8 = .ok (.iload_n 3, 1) := by decide +kernel
theorem dX9_allBefore_9 : decode cX9_allBefore 9 = .ok (.if_icmp .ge 41, 3) := by decide +kernel
theorem dX9_allBefore_12 : decode cX9_allBefore 12 = .ok (.iload 4, 2) := by decide +kernel
theorem dX9_allBefore_14 : decode cX9_allBefore 14 = .ok (.aload_n 0, 1) := by decide +kernel
theorem dX9_allBefore_15 : decode cX9_allBefore 15 = .ok (.iload_n 1, 1) := by decide +kernel
theorem dX9_allBefore_16 : decode cX9_allBefore 16 = .ok (.iload 5, 2) := by decide +kernel
theorem dX9_allBefore_18 : decode cX9_allBefore 18 = .ok (.invokevirtual 132, 3) := by decide +kernel
theorem dX9_allBefore_21 : decode cX9_allBefore 21 = .ok (.iload_n 2, 1) := by decide +kernel
theorem dX9_allBefore_22 : decode cX9_allBefore 22 = .ok (.if_icmp .ne 18, 3) := by decide +kernel
theorem dX9_allBefore_25 : decode cX9_allBefore 25 = .ok (.iconst 1, 1) := by decide +kernel
theorem dX9_allBefore_26 : decode cX9_allBefore 26 = .ok (.iload 5, 2) := by decide +kernel
theorem dX9_allBefore_28 : decode cX9_allBefore 28 = .ok (.ishl, 1) := by decide +kernel
theorem dX9_allBefore_29 : decode cX9_allBefore 29 = .ok (.aload_n 0, 1) := by decide +kernel
theorem dX9_allBefore_30 : decode cX9_allBefore 30 = .ok (.getfield 34, 3) := by decide +kernel
theorem dX9_allBefore_33 : decode cX9_allBefore 33 = .ok (.iload 5, 2) := by decide +kernel
theorem dX9_allBefore_35 : decode cX9_allBefore 35 = .ok (.iaload, 1) := by decide +kernel
theorem dX9_allBefore_36 : decode cX9_allBefore 36 = .ok (.ior, 1) := by decide +kernel
theorem dX9_allBefore_37 : decode cX9_allBefore 37 = .ok (.goto 4, 3) := by decide +kernel
theorem dX9_allBefore_40 : decode cX9_allBefore 40 = .ok (.iconst 0, 1) := by decide +kernel
theorem dX9_allBefore_41 : decode cX9_allBefore 41 = .ok (.ior, 1) := by decide +kernel
theorem dX9_allBefore_42 : decode cX9_allBefore 42 = .ok (.istore 4, 2) := by decide +kernel
theorem dX9_allBefore_44 : decode cX9_allBefore 44 = .ok (.iinc 5 1, 3) := by decide +kernel
theorem dX9_allBefore_47 : decode cX9_allBefore 47 = .ok (.goto (-41), 3) := by decide +kernel
theorem dX9_allBefore_50 : decode cX9_allBefore 50 = .ok (.iload 4, 2) := by decide +kernel
theorem dX9_allBefore_52 : decode cX9_allBefore 52 = .ok (.ireturn, 1) := by decide +kernel
theorem dX9_findBefore_0 : decode cX9_findBefore 0 = .ok (.iconst 0, 1) := by decide +kernel
