theorem mt_1 : ∀ w ∈ tables_1_1, w ∈ lw_tbl := fun _ h => List.mem_append_right _ (List.mem_append_left _ h)
theorem mt_2 : ∀ w ∈ tables_1_2, w ∈ lw_tbl := fun _ h => List.mem_append_right _ (List.mem_append_right _ (List.mem_append_left _ h))
theorem mt_3 : ∀ w ∈ tables_1_3, w ∈ lw_tbl := fun _ h => List.mem_append_right _ (List.mem_append_right _ (List.mem_append_right _ (List.mem_append_left _ h)))
theorem mt_4 : ∀ w ∈ tables_1_4, w ∈ lw_tbl := fun _ h => List.mem_append_right _ (List.mem_append_right _ (List.mem_append_right _ (List.mem_append_right _ (List.mem_append_left _ h))))
theorem mt_5 : ∀ w ∈ tables_1_5, w ∈ lw_tbl := fun _ h => List.mem_append_right _ (List.mem_append_right _ (List.mem_append_right _ (List.mem_append_right _ (List.mem_append_right _ (h)))))
theorem mp_1 : ∀ q ∈ lw_privs_1, Cond.selects q.1.cls q.1 q.1 ∈ lw_tbl := fun _ h => List.mem_append_left _ (List.mem_map_of_mem (List.mem_append_left _ h))
theorem mp_2 : ∀ q ∈ lw_privs_2, Cond.selects q.1.cls q.1 q.1 ∈ lw_tbl := fun _ h => List.mem_append_left _ (List.mem_map_of_mem (List.mem_append_right _ (List.mem_append_left _ h)))
theorem mp_3 : ∀ q ∈ lw_privs_3, Cond.selects q.1.cls q.1 q.1 ∈ lw_tbl := fun _ h => List.mem_append_left _ (List.mem_map_of_mem (List.mem_append_right _ (List.mem_append_right _ (List.mem_append_left _ h))))
theorem mp_4 : ∀ q ∈ lw_privs_4, Cond.selects q.1.cls q.1 q.1 ∈ lw_tbl := fun _ h => List.mem_append_left _ (List.mem_map_of_mem (List.mem_append_right _ (List.mem_append_right _ (List.mem_append_right _ (h)))))
theorem mg {w : Cond} (h : w ∈ lw_tbl) (g : goodWord w = true) : w ∈ wsG := List.mem_filter.mpr ⟨h, g⟩
theorem nq_0 : Cond.classLink RL 7 RX8 ∈ wsG := mg (mt_1 _ (List.mem_of_getElem? (i := 15) rfl)) rfl
theorem nq_1 : Cond.instantiable RX8 10 ∈ wsG := mg (mt_1 _ (List.mem_of_getElem? (i := 16) rfl)) rfl
theorem nq_2 : Cond.initialized RX8 ∈ wsG := mg (mt_1 _ (List.mem_of_getElem? (i := 1) rfl)) rfl
theorem nq_3 : Cond.classLink RL 10 RX9 ∈ wsG := mg (mt_3 _ (List.mem_of_getElem? (i := 162) rfl)) rfl
theorem nq_4 : Cond.instantiable RX9 39 ∈ wsG := mg (mt_3 _ (List.mem_of_getElem? (i := 163) rfl)) rfl
theorem nq_5 : Cond.initialized RX9 ∈ wsG := mg (mt_1 _ (List.mem_of_getElem? (i := 10) rfl)) rfl
theorem nq_6 : Cond.constantLong RL 73 (4294967295) ∈ wsG := mg (mt_5 _ (List.mem_of_getElem? (i := 124) rfl)) rfl
theorem nq_7 : Cond.methodLink RL 9 yX8_init ∈ wsG := mg (mt_1 _ (List.mem_of_getElem? (i := 17) rfl)) rfl
theorem nq_8 : Cond.instanceMethod yX8_init ∈ wsG := mg (mt_1 _ (List.mem_of_getElem? (i := 18) rfl)) rfl
theorem nq_9 : Cond.code yX8_init cX8_init 2 none ∈ wsG := mg (mt_1 _ (List.mem_of_getElem? (i := 19) rfl)) rfl
theorem nq_10 : Cond.methodLink RX8 1 objectInit ∈ wsG := mg (mt_1 _ (List.mem_of_getElem? (i := 20) rfl)) rfl
theorem nq_11 : Cond.instanceMethod objectInit ∈ wsG := mg (mt_1 _ (List.mem_of_getElem? (i := 21) rfl)) rfl
theorem nq_12 : Cond.code objectInit ⟨#[0xb1]⟩ 1 none ∈ wsG := mg (mt_1 _ (List.mem_of_getElem? (i := 22) rfl)) rfl
theorem nq_13 : Cond.classLink RX8 7 RX6 ∈ wsG := mg (mt_1 _ (List.mem_of_getElem? (i := 23) rfl)) rfl
theorem nq_14 : Cond.instantiable RX6 2 ∈ wsG := mg (mt_1 _ (List.mem_of_getElem? (i := 24) rfl)) rfl
theorem nq_15 : Cond.initialized RX6 ∈ wsG := mg (mt_1 _ (List.mem_of_getElem? (i := 2) rfl)) rfl
theorem nq_16 : Cond.fieldLink RX8 10 "LockWatch" "text" "LLockWatch$Text;" ∈ wsG := mg (mt_1 _ (List.mem_of_getElem? (i := 210) rfl)) rfl
theorem nq_17 : Cond.classLink RX8 16 RX4 ∈ wsG := mg (mt_1 _ (List.mem_of_getElem? (i := 38) rfl)) rfl
theorem nq_18 : Cond.instantiable RX4 9 ∈ wsG := mg (mt_1 _ (List.mem_of_getElem? (i := 39) rfl)) rfl
theorem nq_19 : Cond.initialized RX4 ∈ wsG := mg (mt_1 _ (List.mem_of_getElem? (i := 3) rfl)) rfl
theorem nq_20 : Cond.fieldLink RX8 19 "LockWatch" "steps" "LLockWatch$Row;" ∈ wsG := mg (mt_1 _ (List.mem_of_getElem? (i := 211) rfl)) rfl
theorem nq_21 : Cond.fieldLink RX8 23 "LockWatch" "trial" "LLockWatch$Row;" ∈ wsG := mg (mt_1 _ (List.mem_of_getElem? (i := 212) rfl)) rfl
theorem nq_22 : Cond.fieldLink RX8 26 "LockWatch" "kept" "[LLockWatch$Row;" ∈ wsG := mg (mt_1 _ (List.mem_of_getElem? (i := 213) rfl)) rfl
theorem nq_23 : Cond.arrayClass .boolean ∈ wsG := mg (mt_1 _ (List.mem_of_getElem? (i := 140) rfl)) rfl
theorem nq_24 : Cond.fieldLink RX8 30 "LockWatch" "isKept" "[Z" ∈ wsG := mg (mt_1 _ (List.mem_of_getElem? (i := 214) rfl)) rfl
theorem nq_25 : Cond.classLink RX8 34 RX0 ∈ wsG := mg (mt_1 _ (List.mem_of_getElem? (i := 123) rfl)) rfl
theorem nq_26 : Cond.instantiable RX0 3 ∈ wsG := mg (mt_1 _ (List.mem_of_getElem? (i := 124) rfl)) rfl
theorem nq_27 : Cond.initialized RX0 ∈ wsG := mg (mt_1 _ (List.mem_of_getElem? (i := 6) rfl)) rfl
theorem nq_28 : Cond.fieldLink RX8 37 "LockWatch" "acts" "LLockWatch$Acts;" ∈ wsG := mg (mt_1 _ (List.mem_of_getElem? (i := 215) rfl)) rfl
theorem nq_29 : Cond.classLink RX8 41 RX5 ∈ wsG := mg (mt_1 _ (List.mem_of_getElem? (i := 141) rfl)) rfl
theorem nq_30 : Cond.instantiable RX5 4 ∈ wsG := mg (mt_1 _ (List.mem_of_getElem? (i := 142) rfl)) rfl
theorem nq_31 : Cond.initialized RX5 ∈ wsG := mg (mt_1 _ (List.mem_of_getElem? (i := 7) rfl)) rfl
theorem nq_32 : Cond.fieldLink RX8 44 "LockWatch" "seen" "LLockWatch$Seen;" ∈ wsG := mg (mt_1 _ (List.mem_of_getElem? (i := 216) rfl)) rfl
theorem nq_33 : Cond.classLink RX8 48 RX3 ∈ wsG := mg (mt_1 _ (List.mem_of_getElem? (i := 161) rfl)) rfl
theorem nq_34 : Cond.instantiable RX3 7 ∈ wsG := mg (mt_1 _ (List.mem_of_getElem? (i := 162) rfl)) rfl
theorem nq_35 : Cond.initialized RX3 ∈ wsG := mg (mt_1 _ (List.mem_of_getElem? (i := 8) rfl)) rfl
theorem nq_36 : Cond.fieldLink RX8 51 "LockWatch" "ringsFound" "LLockWatch$Rings;" ∈ wsG := mg (mt_1 _ (List.mem_of_getElem? (i := 217) rfl)) rfl
theorem nq_37 : Cond.classLink RX8 55 RX2 ∈ wsG := mg (mt_1 _ (List.mem_of_getElem? (i := 192) rfl)) rfl
theorem nq_38 : Cond.instantiable RX2 3 ∈ wsG := mg (mt_1 _ (List.mem_of_getElem? (i := 193) rfl)) rfl
theorem nq_39 : Cond.initialized RX2 ∈ wsG := mg (mt_1 _ (List.mem_of_getElem? (i := 9) rfl)) rfl
theorem nq_40 : Cond.fieldLink RX8 58 "LockWatch" "chances" "LLockWatch$Chances;" ∈ wsG := mg (mt_1 _ (List.mem_of_getElem? (i := 218) rfl)) rfl
theorem nq_41 : Cond.fieldLink RX8 62 "LockWatch" "theSeed" "J" ∈ wsG := mg (mt_1 _ (List.mem_of_getElem? (i := 219) rfl)) rfl
theorem nq_42 : Cond.methodLink RX8 9 yX6_init ∈ wsG := mg (mt_1 _ (List.mem_of_getElem? (i := 25) rfl)) rfl
theorem nq_43 : Cond.instanceMethod yX6_init ∈ wsG := mg (mt_1 _ (List.mem_of_getElem? (i := 26) rfl)) rfl
theorem nq_44 : Cond.code yX6_init cX6_init 1 none ∈ wsG := mg (mt_1 _ (List.mem_of_getElem? (i := 27) rfl)) rfl
theorem nq_45 : Cond.methodLink RX6 3 objectInit ∈ wsG := mg (mt_1 _ (List.mem_of_getElem? (i := 28) rfl)) rfl
theorem nq_46 : Cond.arrayClass .int ∈ wsG := mg (mt_1 _ (List.mem_of_getElem? (i := 37) rfl)) rfl
theorem nq_47 : Cond.fieldLink RX6 9 "LockWatch$Text" "letters" "[I" ∈ wsG := mg (mt_1 _ (List.mem_of_getElem? (i := 31) rfl)) rfl
theorem nq_48 : Cond.methodLink RX8 18 yX4_init ∈ wsG := mg (mt_1 _ (List.mem_of_getElem? (i := 40) rfl)) rfl
theorem nq_49 : Cond.instanceMethod yX4_init ∈ wsG := mg (mt_1 _ (List.mem_of_getElem? (i := 41) rfl)) rfl
theorem nq_50 : Cond.code yX4_init cX4_init 1 none ∈ wsG := mg (mt_1 _ (List.mem_of_getElem? (i := 42) rfl)) rfl
theorem nq_51 : Cond.methodLink RX4 3 objectInit ∈ wsG := mg (mt_1 _ (List.mem_of_getElem? (i := 43) rfl)) rfl
theorem nq_52 : Cond.fieldLink RX4 9 "LockWatch$Row" "code" "[I" ∈ wsG := mg (mt_1 _ (List.mem_of_getElem? (i := 87) rfl)) rfl
theorem nq_53 : Cond.fieldLink RX4 15 "LockWatch$Row" "heldToWrite" "[I" ∈ wsG := mg (mt_1 _ (List.mem_of_getElem? (i := 89) rfl)) rfl
theorem nq_54 : Cond.fieldLink RX4 18 "LockWatch$Row" "heldToRead" "[I" ∈ wsG := mg (mt_1 _ (List.mem_of_getElem? (i := 92) rfl)) rfl
theorem nq_55 : Cond.fieldLink RX4 21 "LockWatch$Row" "guards" "[I" ∈ wsG := mg (mt_1 _ (List.mem_of_getElem? (i := 95) rfl)) rfl
theorem nq_56 : Cond.fieldLink RX4 24 "LockWatch$Row" "before" "[I" ∈ wsG := mg (mt_1 _ (List.mem_of_getElem? (i := 97) rfl)) rfl
theorem nq_57 : Cond.fieldLink RX4 27 "LockWatch$Row" "past" "[I" ∈ wsG := mg (mt_1 _ (List.mem_of_getElem? (i := 98) rfl)) rfl
theorem nq_58 : Cond.classLink RX4 30 RX7 ∈ wsG := mg (mt_1 _ (List.mem_of_getElem? (i := 44) rfl)) rfl
theorem nq_59 : Cond.instantiable RX7 4 ∈ wsG := mg (mt_1 _ (List.mem_of_getElem? (i := 45) rfl)) rfl
theorem nq_60 : Cond.initialized RX7 ∈ wsG := mg (mt_1 _ (List.mem_of_getElem? (i := 4) rfl)) rfl
theorem nq_61 : Cond.fieldLink RX4 33 "LockWatch$Row" "world" "LLockWatch$World;" ∈ wsG := mg (mt_1 _ (List.mem_of_getElem? (i := 100) rfl)) rfl
theorem nq_62 : Cond.methodLink RX4 32 yX7_init ∈ wsG := mg (mt_1 _ (List.mem_of_getElem? (i := 46) rfl)) rfl
theorem nq_63 : Cond.instanceMethod yX7_init ∈ wsG := mg (mt_1 _ (List.mem_of_getElem? (i := 47) rfl)) rfl
theorem nq_64 : Cond.code yX7_init cX7_init 1 none ∈ wsG := mg (mt_1 _ (List.mem_of_getElem? (i := 48) rfl)) rfl
theorem nq_65 : Cond.methodLink RX7 3 objectInit ∈ wsG := mg (mt_1 _ (List.mem_of_getElem? (i := 49) rfl)) rfl
theorem nq_66 : Cond.fieldLink RX7 9 "LockWatch$World" "toWrite" "[I" ∈ wsG := mg (mt_1 _ (List.mem_of_getElem? (i := 61) rfl)) rfl
theorem nq_67 : Cond.fieldLink RX7 15 "LockWatch$World" "toRead" "[I" ∈ wsG := mg (mt_1 _ (List.mem_of_getElem? (i := 63) rfl)) rfl
theorem nq_68 : Cond.methodLink RX7 18 yX7_begin ∈ wsG := mg (mt_1 _ (List.mem_of_getElem? (i := 50) rfl)) rfl
theorem nq_69 : Cond.instanceMethod yX7_begin ∈ wsG := mg (mt_1 _ (List.mem_of_getElem? (i := 51) rfl)) rfl
theorem nq_70 : Cond.selects RX7 yX7_begin yX7_begin ∈ wsG := mg (mt_1 _ (List.mem_of_getElem? (i := 52) rfl)) rfl
theorem nq_71 : Cond.code yX7_begin cX7_begin 1 none ∈ wsG := mg (mt_1 _ (List.mem_of_getElem? (i := 53) rfl)) rfl
theorem nq_72 : Cond.fieldLink RX7 21 "LockWatch$World" "started" "I" ∈ wsG := mg (mt_1 _ (List.mem_of_getElem? (i := 57) rfl)) rfl
theorem nq_73 : Cond.fieldLink RX7 25 "LockWatch$World" "ended" "I" ∈ wsG := mg (mt_1 _ (List.mem_of_getElem? (i := 59) rfl)) rfl
theorem nq_74 : Cond.methodLink RX7 28 yJ7_fill_53178 ∈ wsG := mg (mt_1 _ (List.mem_of_getElem? (i := 54) rfl)) rfl
theorem nq_75 : Cond.static yJ7_fill_53178 ∈ wsG := mg (mt_1 _ (List.mem_of_getElem? (i := 55) rfl)) rfl
theorem nq_76 : Cond.initialized RJ7 ∈ wsG := mg (mt_1 _ (List.mem_of_getElem? (i := 5) rfl)) rfl
theorem nq_77 : Cond.code yJ7_fill_53178 cJ7_fill_53178 4 none ∈ wsG := mg (mt_1 _ (List.mem_of_getElem? (i := 56) rfl)) rfl
theorem nq_78 : Cond.methodLink RX4 37 yX4_begin ∈ wsG := mg (mt_1 _ (List.mem_of_getElem? (i := 74) rfl)) rfl
theorem nq_79 : Cond.instanceMethod yX4_begin ∈ wsG := mg (mt_1 _ (List.mem_of_getElem? (i := 75) rfl)) rfl
theorem nq_80 : Cond.selects RX4 yX4_begin yX4_begin ∈ wsG := mg (mt_1 _ (List.mem_of_getElem? (i := 76) rfl)) rfl
theorem nq_81 : Cond.code yX4_begin cX4_begin 1 none ∈ wsG := mg (mt_1 _ (List.mem_of_getElem? (i := 77) rfl)) rfl
theorem nq_82 : Cond.fieldLink RX4 40 "LockWatch$Row" "size" "I" ∈ wsG := mg (mt_1 _ (List.mem_of_getElem? (i := 80) rfl)) rfl
theorem nq_83 : Cond.fieldLink RX4 44 "LockWatch$Row" "acted" "I" ∈ wsG := mg (mt_1 _ (List.mem_of_getElem? (i := 99) rfl)) rfl
theorem nq_84 : Cond.methodLink RX4 47 yJ7_fill_53178 ∈ wsG := mg (mt_1 _ (List.mem_of_getElem? (i := 78) rfl)) rfl
theorem nq_85 : Cond.methodLink RX4 53 yX7_begin ∈ wsG := mg (mt_1 _ (List.mem_of_getElem? (i := 79) rfl)) rfl
theorem nq_86 : Cond.methodLink RX8 36 yX0_init ∈ wsG := mg (mt_1 _ (List.mem_of_getElem? (i := 125) rfl)) rfl
theorem nq_87 : Cond.instanceMethod yX0_init ∈ wsG := mg (mt_1 _ (List.mem_of_getElem? (i := 126) rfl)) rfl
theorem nq_88 : Cond.code yX0_init cX0_init 1 none ∈ wsG := mg (mt_1 _ (List.mem_of_getElem? (i := 127) rfl)) rfl
theorem nq_89 : Cond.methodLink RX0 3 objectInit ∈ wsG := mg (mt_1 _ (List.mem_of_getElem? (i := 128) rfl)) rfl
theorem nq_90 : Cond.fieldLink RX0 9 "LockWatch$Acts" "place" "[I" ∈ wsG := mg (mt_1 _ (List.mem_of_getElem? (i := 131) rfl)) rfl
theorem nq_91 : Cond.fieldLink RX0 15 "LockWatch$Acts" "gone" "[I" ∈ wsG := mg (mt_1 _ (List.mem_of_getElem? (i := 132) rfl)) rfl
theorem nq_92 : Cond.methodLink RX8 43 yX5_init ∈ wsG := mg (mt_1 _ (List.mem_of_getElem? (i := 143) rfl)) rfl
theorem nq_93 : Cond.instanceMethod yX5_init ∈ wsG := mg (mt_1 _ (List.mem_of_getElem? (i := 144) rfl)) rfl
theorem nq_94 : Cond.code yX5_init cX5_init 1 none ∈ wsG := mg (mt_1 _ (List.mem_of_getElem? (i := 145) rfl)) rfl
theorem nq_95 : Cond.methodLink RX5 3 objectInit ∈ wsG := mg (mt_1 _ (List.mem_of_getElem? (i := 146) rfl)) rfl
theorem nq_96 : Cond.fieldLink RX5 9 "LockWatch$Seen" "cell" "[I" ∈ wsG := mg (mt_1 _ (List.mem_of_getElem? (i := 149) rfl)) rfl
theorem nq_97 : Cond.fieldLink RX5 15 "LockWatch$Seen" "state" "[I" ∈ wsG := mg (mt_1 _ (List.mem_of_getElem? (i := 150) rfl)) rfl
theorem nq_98 : Cond.fieldLink RX5 18 "LockWatch$Seen" "was" "[Z" ∈ wsG := mg (mt_1 _ (List.mem_of_getElem? (i := 151) rfl)) rfl
theorem nq_99 : Cond.methodLink RX8 50 yX3_init ∈ wsG := mg (mt_1 _ (List.mem_of_getElem? (i := 163) rfl)) rfl
theorem nq_100 : Cond.instanceMethod yX3_init ∈ wsG := mg (mt_1 _ (List.mem_of_getElem? (i := 164) rfl)) rfl
theorem nq_101 : Cond.code yX3_init cX3_init 1 none ∈ wsG := mg (mt_1 _ (List.mem_of_getElem? (i := 165) rfl)) rfl
theorem nq_102 : Cond.methodLink RX3 3 objectInit ∈ wsG := mg (mt_1 _ (List.mem_of_getElem? (i := 166) rfl)) rfl
theorem nq_103 : Cond.fieldLink RX3 11 "LockWatch$Rings" "at" "[I" ∈ wsG := mg (mt_1 _ (List.mem_of_getElem? (i := 169) rfl)) rfl
theorem nq_104 : Cond.fieldLink RX3 15 "LockWatch$Rings" "from" "[I" ∈ wsG := mg (mt_1 _ (List.mem_of_getElem? (i := 170) rfl)) rfl
theorem nq_105 : Cond.fieldLink RX3 18 "LockWatch$Rings" "to" "[I" ∈ wsG := mg (mt_1 _ (List.mem_of_getElem? (i := 171) rfl)) rfl
theorem nq_106 : Cond.fieldLink RX3 21 "LockWatch$Rings" "tally" "[I" ∈ wsG := mg (mt_1 _ (List.mem_of_getElem? (i := 172) rfl)) rfl
theorem nq_107 : Cond.fieldLink RX3 24 "LockWatch$Rings" "chain" "[I" ∈ wsG := mg (mt_1 _ (List.mem_of_getElem? (i := 176) rfl)) rfl
theorem nq_108 : Cond.fieldLink RX3 27 "LockWatch$Rings" "least" "I" ∈ wsG := mg (mt_1 _ (List.mem_of_getElem? (i := 174) rfl)) rfl
theorem nq_109 : Cond.methodLink RX8 57 yX2_init ∈ wsG := mg (mt_1 _ (List.mem_of_getElem? (i := 194) rfl)) rfl
theorem nq_110 : Cond.instanceMethod yX2_init ∈ wsG := mg (mt_1 _ (List.mem_of_getElem? (i := 195) rfl)) rfl
theorem nq_111 : Cond.code yX2_init cX2_init 1 none ∈ wsG := mg (mt_1 _ (List.mem_of_getElem? (i := 196) rfl)) rfl
theorem nq_112 : Cond.methodLink RX2 3 objectInit ∈ wsG := mg (mt_1 _ (List.mem_of_getElem? (i := 197) rfl)) rfl
theorem nq_113 : Cond.arrayClass .long ∈ wsG := mg (mt_1 _ (List.mem_of_getElem? (i := 209) rfl)) rfl
theorem nq_114 : Cond.fieldLink RX2 11 "LockWatch$Chances" "now" "[J" ∈ wsG := mg (mt_1 _ (List.mem_of_getElem? (i := 200) rfl)) rfl
theorem nq_115 : Cond.fieldLink RX2 17 "LockWatch$Chances" "next" "[J" ∈ wsG := mg (mt_1 _ (List.mem_of_getElem? (i := 201) rfl)) rfl
theorem nq_116 : Cond.fieldLink RX2 20 "LockWatch$Chances" "whole" "J" ∈ wsG := mg (mt_1 _ (List.mem_of_getElem? (i := 198) rfl)) rfl
theorem nq_117 : Cond.methodLink RL 12 yX9_init ∈ wsG := mg (mt_3 _ (List.mem_of_getElem? (i := 164) rfl)) rfl
theorem nq_118 : Cond.instanceMethod yX9_init ∈ wsG := mg (mt_3 _ (List.mem_of_getElem? (i := 165) rfl)) rfl
theorem nq_119 : Cond.code yX9_init cX9_init 1 none ∈ wsG := mg (mt_3 _ (List.mem_of_getElem? (i := 166) rfl)) rfl
theorem nq_120 : Cond.methodLink RX9 1 objectInit ∈ wsG := mg (mt_3 _ (List.mem_of_getElem? (i := 167) rfl)) rfl
theorem nq_121 : Cond.fieldLink RX9 7 "LockWatchModel" "writes" "[I" ∈ wsG := mg (mt_3 _ (List.mem_of_getElem? (i := 168) rfl)) rfl
theorem nq_122 : Cond.fieldLink RX9 13 "LockWatchModel" "reads" "[I" ∈ wsG := mg (mt_3 _ (List.mem_of_getElem? (i := 169) rfl)) rfl
theorem nq_123 : Cond.fieldLink RX9 16 "LockWatchModel" "now" "[I" ∈ wsG := mg (mt_3 _ (List.mem_of_getElem? (i := 172) rfl)) rfl
theorem nq_124 : Cond.fieldLink RX9 19 "LockWatchModel" "text" "[I" ∈ wsG := mg (mt_3 _ (List.mem_of_getElem? (i := 173) rfl)) rfl
theorem nq_125 : Cond.fieldLink RX9 22 "LockWatchModel" "readSteps" "[I" ∈ wsG := mg (mt_3 _ (List.mem_of_getElem? (i := 175) rfl)) rfl
theorem nq_126 : Cond.fieldLink RX9 25 "LockWatchModel" "heldToWrite" "[I" ∈ wsG := mg (mt_3 _ (List.mem_of_getElem? (i := 176) rfl)) rfl
theorem nq_127 : Cond.fieldLink RX9 28 "LockWatchModel" "heldToRead" "[I" ∈ wsG := mg (mt_3 _ (List.mem_of_getElem? (i := 177) rfl)) rfl
theorem nq_128 : Cond.fieldLink RX9 31 "LockWatchModel" "row" "[I" ∈ wsG := mg (mt_3 _ (List.mem_of_getElem? (i := 180) rfl)) rfl
theorem nq_129 : Cond.fieldLink RX9 34 "LockWatchModel" "before" "[I" ∈ wsG := mg (mt_3 _ (List.mem_of_getElem? (i := 186) rfl)) rfl
theorem nq_130 : Cond.fieldLink RX9 37 "LockWatchModel" "edgeStep" "[I" ∈ wsG := mg (mt_3 _ (List.mem_of_getElem? (i := 189) rfl)) rfl
theorem nq_131 : Cond.fieldLink RX9 40 "LockWatchModel" "edgeFrom" "[I" ∈ wsG := mg (mt_3 _ (List.mem_of_getElem? (i := 190) rfl)) rfl
theorem nq_132 : Cond.fieldLink RX9 43 "LockWatchModel" "edgeTo" "[I" ∈ wsG := mg (mt_3 _ (List.mem_of_getElem? (i := 191) rfl)) rfl
theorem nq_133 : Cond.fieldLink RX9 46 "LockWatchModel" "ring" "[I" ∈ wsG := mg (mt_3 _ (List.mem_of_getElem? (i := 193) rfl)) rfl
theorem nq_134 : Cond.fieldLink RX9 49 "LockWatchModel" "found" "[I" ∈ wsG := mg (mt_3 _ (List.mem_of_getElem? (i := 194) rfl)) rfl
theorem nq_135 : Cond.fieldLink RX9 52 "LockWatchModel" "gated" "[I" ∈ wsG := mg (mt_3 _ (List.mem_of_getElem? (i := 195) rfl)) rfl
theorem nq_136 : Cond.fieldLink RX9 55 "LockWatchModel" "ordered" "[I" ∈ wsG := mg (mt_3 _ (List.mem_of_getElem? (i := 196) rfl)) rfl
theorem nq_137 : Cond.fieldLink RX9 58 "LockWatchModel" "feasible" "[I" ∈ wsG := mg (mt_3 _ (List.mem_of_getElem? (i := 197) rfl)) rfl
theorem nq_138 : Cond.fieldLink RX9 61 "LockWatchModel" "aside" "[I" ∈ wsG := mg (mt_3 _ (List.mem_of_getElem? (i := 199) rfl)) rfl
theorem nq_139 : Cond.fieldLink RX9 64 "LockWatchModel" "seenCell" "[I" ∈ wsG := mg (mt_3 _ (List.mem_of_getElem? (i := 201) rfl)) rfl
theorem nq_140 : Cond.fieldLink RX9 67 "LockWatchModel" "seenState" "[I" ∈ wsG := mg (mt_3 _ (List.mem_of_getElem? (i := 202) rfl)) rfl
theorem nq_141 : Cond.fieldLink RX9 70 "LockWatchModel" "seenWas" "[I" ∈ wsG := mg (mt_3 _ (List.mem_of_getElem? (i := 203) rfl)) rfl
theorem nq_142 : Cond.fieldLink RX9 73 "LockWatchModel" "isKept" "[Z" ∈ wsG := mg (mt_3 _ (List.mem_of_getElem? (i := 205) rfl)) rfl
theorem nq_143 : Cond.fieldLink RX9 77 "LockWatchModel" "kept" "[I" ∈ wsG := mg (mt_3 _ (List.mem_of_getElem? (i := 206) rfl)) rfl
theorem nq_144 : Cond.methodLink RL 13 yX8_write ∈ wsG := mg (mt_2 _ (List.mem_of_getElem? (i := 1) rfl)) rfl
theorem nq_145 : Cond.instanceMethod yX8_write ∈ wsG := mg (mt_2 _ (List.mem_of_getElem? (i := 2) rfl)) rfl
theorem nq_146 : Cond.selects RX8 yX8_write yX8_write ∈ wsG := mg (mt_2 _ (List.mem_of_getElem? (i := 3) rfl)) rfl
theorem nq_147 : Cond.code yX8_write cX8_write 2 (some .int) ∈ wsG := mg (mt_2 _ (List.mem_of_getElem? (i := 4) rfl)) rfl
theorem nq_148 : Cond.methodLink RX8 66 yX6_put ∈ wsG := mg (mt_2 _ (List.mem_of_getElem? (i := 5) rfl)) rfl
theorem nq_149 : Cond.instanceMethod yX6_put ∈ wsG := mg (mt_2 _ (List.mem_of_getElem? (i := 6) rfl)) rfl
theorem nq_150 : Cond.selects RX6 yX6_put yX6_put ∈ wsG := mg (mt_2 _ (List.mem_of_getElem? (i := 7) rfl)) rfl
theorem nq_151 : Cond.code yX6_put cX6_put 2 (some .boolean) ∈ wsG := mg (mt_2 _ (List.mem_of_getElem? (i := 8) rfl)) rfl
theorem nq_152 : Cond.fieldLink RX6 15 "LockWatch$Text" "length" "I" ∈ wsG := mg (mt_1 _ (List.mem_of_getElem? (i := 29) rfl)) rfl
theorem nq_153 : Cond.methodLink RL 17 yX9_write ∈ wsG := mg (mt_4 _ (List.mem_of_getElem? (i := 46) rfl)) rfl
theorem nq_154 : Cond.instanceMethod yX9_write ∈ wsG := mg (mt_4 _ (List.mem_of_getElem? (i := 47) rfl)) rfl
theorem nq_155 : Cond.selects RX9 yX9_write yX9_write ∈ wsG := mg (mt_4 _ (List.mem_of_getElem? (i := 48) rfl)) rfl
theorem nq_156 : Cond.code yX9_write cX9_write 2 (some .int) ∈ wsG := mg (mt_4 _ (List.mem_of_getElem? (i := 49) rfl)) rfl
theorem nq_157 : Cond.constantLong RX9 139 (255) ∈ wsG := mg (mt_4 _ (List.mem_of_getElem? (i := 50) rfl)) rfl
theorem nq_158 : Cond.fieldLink RX9 141 "LockWatchModel" "length" "I" ∈ wsG := mg (mt_3 _ (List.mem_of_getElem? (i := 174) rfl)) rfl
theorem nq_159 : Cond.methodLink RX9 89 yX9_in ∈ wsG := mg (mt_4 _ (List.mem_of_getElem? (i := 51) rfl)) rfl
theorem nq_160 : Cond.static yX9_in ∈ wsG := mg (mt_4 _ (List.mem_of_getElem? (i := 52) rfl)) rfl
theorem nq_161 : Cond.code yX9_in cX9_in 6 (some .boolean) ∈ wsG := mg (mt_4 _ (List.mem_of_getElem? (i := 53) rfl)) rfl
theorem nq_162 : Cond.methodLink RL 18 yX8_wipe ∈ wsG := mg (mt_2 _ (List.mem_of_getElem? (i := 9) rfl)) rfl
theorem nq_163 : Cond.instanceMethod yX8_wipe ∈ wsG := mg (mt_2 _ (List.mem_of_getElem? (i := 10) rfl)) rfl
theorem nq_164 : Cond.selects RX8 yX8_wipe yX8_wipe ∈ wsG := mg (mt_2 _ (List.mem_of_getElem? (i := 11) rfl)) rfl
theorem nq_165 : Cond.code yX8_wipe cX8_wipe 2 (some .int) ∈ wsG := mg (mt_2 _ (List.mem_of_getElem? (i := 12) rfl)) rfl
theorem nq_166 : Cond.methodLink RL 22 yX9_wipe ∈ wsG := mg (mt_4 _ (List.mem_of_getElem? (i := 54) rfl)) rfl
theorem nq_167 : Cond.instanceMethod yX9_wipe ∈ wsG := mg (mt_4 _ (List.mem_of_getElem? (i := 55) rfl)) rfl
theorem nq_168 : Cond.selects RX9 yX9_wipe yX9_wipe ∈ wsG := mg (mt_4 _ (List.mem_of_getElem? (i := 56) rfl)) rfl
theorem nq_169 : Cond.code yX9_wipe cX9_wipe 2 (some .int) ∈ wsG := mg (mt_4 _ (List.mem_of_getElem? (i := 57) rfl)) rfl
theorem nq_170 : Cond.methodLink RL 23 yX8_fault ∈ wsG := mg (mt_2 _ (List.mem_of_getElem? (i := 13) rfl)) rfl
theorem nq_171 : Cond.instanceMethod yX8_fault ∈ wsG := mg (mt_2 _ (List.mem_of_getElem? (i := 14) rfl)) rfl
theorem nq_172 : Cond.selects RX8 yX8_fault yX8_fault ∈ wsG := mg (mt_2 _ (List.mem_of_getElem? (i := 15) rfl)) rfl
theorem nq_173 : Cond.code yX8_fault cX8_fault 1 (some .int) ∈ wsG := mg (mt_2 _ (List.mem_of_getElem? (i := 16) rfl)) rfl
theorem nq_174 : Cond.methodLink RX8 74 yX6_tell ∈ wsG := mg (mt_2 _ (List.mem_of_getElem? (i := 17) rfl)) rfl
theorem nq_175 : Cond.instanceMethod yX6_tell ∈ wsG := mg (mt_2 _ (List.mem_of_getElem? (i := 18) rfl)) rfl
theorem nq_176 : Cond.selects RX6 yX6_tell yX6_tell ∈ wsG := mg (mt_2 _ (List.mem_of_getElem? (i := 19) rfl)) rfl
theorem nq_177 : Cond.code yX6_tell cX6_tell 4 (some .int) ∈ wsG := mg (mt_2 _ (List.mem_of_getElem? (i := 20) rfl)) rfl
theorem nq_178 : Cond.methodLink RX6 19 yX4_begin ∈ wsG := mg (mt_2 _ (List.mem_of_getElem? (i := 21) rfl)) rfl
theorem nq_179 : Cond.methodLink RX6 24 yX6_tellStep ∈ wsG := mg (mt_2 _ (List.mem_of_getElem? (i := 22) rfl)) rfl
theorem nq_180 : Cond.instanceMethod yX6_tellStep ∈ wsG := mg (mt_2 _ (List.mem_of_getElem? (i := 24) rfl)) rfl
theorem nq_181 : Cond.selects RX6 yX6_tellStep yX6_tellStep ∈ wsG := mg (mp_1 (_, 2) (List.mem_of_getElem? (i := 0) rfl)) rfl
theorem nq_182 : Cond.code yX6_tellStep cX6_tellStep 6 (some .int) ∈ wsG := mg (mt_2 _ (List.mem_of_getElem? (i := 25) rfl)) rfl
theorem nq_183 : Cond.methodLink RX6 35 yX7_lives ∈ wsG := mg (mt_2 _ (List.mem_of_getElem? (i := 26) rfl)) rfl
theorem nq_184 : Cond.instanceMethod yX7_lives ∈ wsG := mg (mt_2 _ (List.mem_of_getElem? (i := 27) rfl)) rfl
theorem nq_185 : Cond.selects RX7 yX7_lives yX7_lives ∈ wsG := mg (mt_2 _ (List.mem_of_getElem? (i := 28) rfl)) rfl
theorem nq_186 : Cond.code yX7_lives cX7_lives 2 (some .boolean) ∈ wsG := mg (mt_2 _ (List.mem_of_getElem? (i := 29) rfl)) rfl
theorem nq_187 : Cond.methodLink RX6 41 yX7_choices ∈ wsG := mg (mt_2 _ (List.mem_of_getElem? (i := 30) rfl)) rfl
theorem nq_188 : Cond.instanceMethod yX7_choices ∈ wsG := mg (mt_2 _ (List.mem_of_getElem? (i := 31) rfl)) rfl
theorem nq_189 : Cond.selects RX7 yX7_choices yX7_choices ∈ wsG := mg (mt_2 _ (List.mem_of_getElem? (i := 32) rfl)) rfl
theorem nq_190 : Cond.code yX7_choices cX7_choices 3 (some .int) ∈ wsG := mg (mt_2 _ (List.mem_of_getElem? (i := 33) rfl)) rfl
theorem nq_191 : Cond.methodLink RX7 34 yX7_lives ∈ wsG := mg (mt_2 _ (List.mem_of_getElem? (i := 34) rfl)) rfl
theorem nq_192 : Cond.methodLink RX7 38 yX7_allToWrite ∈ wsG := mg (mt_2 _ (List.mem_of_getElem? (i := 35) rfl)) rfl
theorem nq_193 : Cond.instanceMethod yX7_allToWrite ∈ wsG := mg (mt_2 _ (List.mem_of_getElem? (i := 36) rfl)) rfl
theorem nq_194 : Cond.selects RX7 yX7_allToWrite yX7_allToWrite ∈ wsG := mg (mt_2 _ (List.mem_of_getElem? (i := 37) rfl)) rfl
theorem nq_195 : Cond.code yX7_allToWrite cX7_allToWrite 1 (some .int) ∈ wsG := mg (mt_2 _ (List.mem_of_getElem? (i := 38) rfl)) rfl
theorem nq_196 : Cond.methodLink RX7 42 yX7_allToRead ∈ wsG := mg (mt_2 _ (List.mem_of_getElem? (i := 39) rfl)) rfl
theorem nq_197 : Cond.instanceMethod yX7_allToRead ∈ wsG := mg (mt_2 _ (List.mem_of_getElem? (i := 40) rfl)) rfl
theorem nq_198 : Cond.selects RX7 yX7_allToRead yX7_allToRead ∈ wsG := mg (mt_2 _ (List.mem_of_getElem? (i := 41) rfl)) rfl
theorem nq_199 : Cond.code yX7_allToRead cX7_allToRead 1 (some .int) ∈ wsG := mg (mt_2 _ (List.mem_of_getElem? (i := 42) rfl)) rfl
theorem nq_200 : Cond.methodLink RX7 45 yX7_awaitable ∈ wsG := mg (mt_2 _ (List.mem_of_getElem? (i := 43) rfl)) rfl
theorem nq_201 : Cond.instanceMethod yX7_awaitable ∈ wsG := mg (mt_2 _ (List.mem_of_getElem? (i := 45) rfl)) rfl
theorem nq_202 : Cond.selects RX7 yX7_awaitable yX7_awaitable ∈ wsG := mg (mp_1 (_, 4) (List.mem_of_getElem? (i := 1) rfl)) rfl
theorem nq_203 : Cond.code yX7_awaitable cX7_awaitable 4 (some .int) ∈ wsG := mg (mt_2 _ (List.mem_of_getElem? (i := 46) rfl)) rfl
theorem nq_204 : Cond.methodLink RX6 45 yX6_firstLetter ∈ wsG := mg (mt_2 _ (List.mem_of_getElem? (i := 47) rfl)) rfl
theorem nq_205 : Cond.static yX6_firstLetter ∈ wsG := mg (mt_2 _ (List.mem_of_getElem? (i := 48) rfl)) rfl
theorem nq_206 : Cond.code yX6_firstLetter cX6_firstLetter 1 (some .int) ∈ wsG := mg (mt_2 _ (List.mem_of_getElem? (i := 49) rfl)) rfl
theorem nq_207 : Cond.static yX8_isOneOfFour ∈ wsG := mg (mt_2 _ (List.mem_of_getElem? (i := 51) rfl)) rfl
theorem nq_208 : Cond.code yX8_isOneOfFour cX8_isOneOfFour 1 (some .boolean) ∈ wsG := mg (mt_2 _ (List.mem_of_getElem? (i := 52) rfl)) rfl
theorem nq_209 : Cond.methodLink RX6 52 yX4_pack ∈ wsG := mg (mt_2 _ (List.mem_of_getElem? (i := 53) rfl)) rfl
theorem nq_210 : Cond.static yX4_pack ∈ wsG := mg (mt_2 _ (List.mem_of_getElem? (i := 54) rfl)) rfl
theorem nq_211 : Cond.code yX4_pack cX4_pack 3 (some .int) ∈ wsG := mg (mt_2 _ (List.mem_of_getElem? (i := 55) rfl)) rfl
theorem nq_212 : Cond.methodLink RX6 56 yX4_put ∈ wsG := mg (mt_2 _ (List.mem_of_getElem? (i := 56) rfl)) rfl
theorem nq_213 : Cond.instanceMethod yX4_put ∈ wsG := mg (mt_2 _ (List.mem_of_getElem? (i := 57) rfl)) rfl
theorem nq_214 : Cond.selects RX4 yX4_put yX4_put ∈ wsG := mg (mt_2 _ (List.mem_of_getElem? (i := 58) rfl)) rfl
theorem nq_215 : Cond.code yX4_put cX4_put 5 (some .boolean) ∈ wsG := mg (mt_2 _ (List.mem_of_getElem? (i := 59) rfl)) rfl
theorem nq_216 : Cond.methodLink RX4 54 yX7_choices ∈ wsG := mg (mt_2 _ (List.mem_of_getElem? (i := 60) rfl)) rfl
theorem nq_217 : Cond.methodLink RX4 64 yX4_order ∈ wsG := mg (mt_2 _ (List.mem_of_getElem? (i := 61) rfl)) rfl
theorem nq_218 : Cond.instanceMethod yX4_order ∈ wsG := mg (mt_2 _ (List.mem_of_getElem? (i := 63) rfl)) rfl
theorem nq_219 : Cond.selects RX4 yX4_order yX4_order ∈ wsG := mg (mp_1 (_, 9) (List.mem_of_getElem? (i := 2) rfl)) rfl
theorem nq_220 : Cond.code yX4_order cX4_order 5 none ∈ wsG := mg (mt_2 _ (List.mem_of_getElem? (i := 64) rfl)) rfl
theorem nq_221 : Cond.methodLink RX4 68 yX7_go ∈ wsG := mg (mt_2 _ (List.mem_of_getElem? (i := 65) rfl)) rfl
theorem nq_222 : Cond.instanceMethod yX7_go ∈ wsG := mg (mt_2 _ (List.mem_of_getElem? (i := 66) rfl)) rfl
theorem nq_223 : Cond.selects RX7 yX7_go yX7_go ∈ wsG := mg (mt_2 _ (List.mem_of_getElem? (i := 67) rfl)) rfl
theorem nq_224 : Cond.code yX7_go cX7_go 5 none ∈ wsG := mg (mt_2 _ (List.mem_of_getElem? (i := 68) rfl)) rfl
theorem nq_225 : Cond.methodLink RL 26 yX9_fault ∈ wsG := mg (mt_4 _ (List.mem_of_getElem? (i := 58) rfl)) rfl
theorem nq_226 : Cond.instanceMethod yX9_fault ∈ wsG := mg (mt_4 _ (List.mem_of_getElem? (i := 59) rfl)) rfl
theorem nq_227 : Cond.selects RX9 yX9_fault yX9_fault ∈ wsG := mg (mt_4 _ (List.mem_of_getElem? (i := 60) rfl)) rfl
theorem nq_228 : Cond.code yX9_fault cX9_fault 1 (some .int) ∈ wsG := mg (mt_4 _ (List.mem_of_getElem? (i := 61) rfl)) rfl
theorem nq_229 : Cond.methodLink RX9 153 yX9_readText ∈ wsG := mg (mt_4 _ (List.mem_of_getElem? (i := 62) rfl)) rfl
theorem nq_230 : Cond.instanceMethod yX9_readText ∈ wsG := mg (mt_4 _ (List.mem_of_getElem? (i := 64) rfl)) rfl
theorem nq_231 : Cond.selects RX9 yX9_readText yX9_readText ∈ wsG := mg (mp_1 (_, 39) (List.mem_of_getElem? (i := 14) rfl)) rfl
theorem nq_232 : Cond.code yX9_readText cX9_readText 5 (some .int) ∈ wsG := mg (mt_4 _ (List.mem_of_getElem? (i := 65) rfl)) rfl
theorem nq_233 : Cond.methodLink RX9 125 yX9_begin ∈ wsG := mg (mt_4 _ (List.mem_of_getElem? (i := 66) rfl)) rfl
theorem nq_234 : Cond.instanceMethod yX9_begin ∈ wsG := mg (mt_4 _ (List.mem_of_getElem? (i := 68) rfl)) rfl
theorem nq_235 : Cond.selects RX9 yX9_begin yX9_begin ∈ wsG := mg (mp_1 (_, 39) (List.mem_of_getElem? (i := 15) rfl)) rfl
theorem nq_236 : Cond.code yX9_begin cX9_begin 2 none ∈ wsG := mg (mt_4 _ (List.mem_of_getElem? (i := 69) rfl)) rfl
theorem nq_237 : Cond.fieldLink RX9 80 "LockWatchModel" "started" "I" ∈ wsG := mg (mt_3 _ (List.mem_of_getElem? (i := 170) rfl)) rfl
theorem nq_238 : Cond.fieldLink RX9 84 "LockWatchModel" "ended" "I" ∈ wsG := mg (mt_3 _ (List.mem_of_getElem? (i := 171) rfl)) rfl
theorem nq_239 : Cond.methodLink RX9 108 yX9_isRunning ∈ wsG := mg (mt_4 _ (List.mem_of_getElem? (i := 70) rfl)) rfl
theorem nq_240 : Cond.instanceMethod yX9_isRunning ∈ wsG := mg (mt_4 _ (List.mem_of_getElem? (i := 72) rfl)) rfl
theorem nq_241 : Cond.selects RX9 yX9_isRunning yX9_isRunning ∈ wsG := mg (mp_2 (_, 39) (List.mem_of_getElem? (i := 0) rfl)) rfl
theorem nq_242 : Cond.code yX9_isRunning cX9_isRunning 2 (some .boolean) ∈ wsG := mg (mt_4 _ (List.mem_of_getElem? (i := 73) rfl)) rfl
theorem nq_243 : Cond.constantLong RX9 87 (3) ∈ wsG := mg (mt_4 _ (List.mem_of_getElem? (i := 74) rfl)) rfl
theorem nq_244 : Cond.methodLink RX9 93 yX9_has ∈ wsG := mg (mt_4 _ (List.mem_of_getElem? (i := 75) rfl)) rfl
theorem nq_245 : Cond.static yX9_has ∈ wsG := mg (mt_4 _ (List.mem_of_getElem? (i := 76) rfl)) rfl
theorem nq_246 : Cond.code yX9_has cX9_has 2 (some .boolean) ∈ wsG := mg (mt_4 _ (List.mem_of_getElem? (i := 77) rfl)) rfl
theorem nq_247 : Cond.methodLink RX9 144 yX9_signOf ∈ wsG := mg (mt_4 _ (List.mem_of_getElem? (i := 78) rfl)) rfl
theorem nq_248 : Cond.static yX9_signOf ∈ wsG := mg (mt_4 _ (List.mem_of_getElem? (i := 79) rfl)) rfl
theorem nq_249 : Cond.code yX9_signOf cX9_signOf 1 (some .int) ∈ wsG := mg (mt_4 _ (List.mem_of_getElem? (i := 80) rfl)) rfl
theorem nq_250 : Cond.methodLink RX9 147 yX9_mayAny ∈ wsG := mg (mt_4 _ (List.mem_of_getElem? (i := 81) rfl)) rfl
theorem nq_251 : Cond.instanceMethod yX9_mayAny ∈ wsG := mg (mt_4 _ (List.mem_of_getElem? (i := 83) rfl)) rfl
theorem nq_252 : Cond.selects RX9 yX9_mayAny yX9_mayAny ∈ wsG := mg (mp_2 (_, 39) (List.mem_of_getElem? (i := 1) rfl)) rfl
theorem nq_253 : Cond.code yX9_mayAny cX9_mayAny 3 (some .boolean) ∈ wsG := mg (mt_4 _ (List.mem_of_getElem? (i := 84) rfl)) rfl
theorem nq_254 : Cond.methodLink RX9 112 yX9_mayBe ∈ wsG := mg (mt_4 _ (List.mem_of_getElem? (i := 85) rfl)) rfl
theorem nq_255 : Cond.instanceMethod yX9_mayBe ∈ wsG := mg (mt_4 _ (List.mem_of_getElem? (i := 87) rfl)) rfl
theorem nq_256 : Cond.selects RX9 yX9_mayBe yX9_mayBe ∈ wsG := mg (mp_2 (_, 39) (List.mem_of_getElem? (i := 2) rfl)) rfl
theorem nq_257 : Cond.code yX9_mayBe cX9_mayBe 4 (some .boolean) ∈ wsG := mg (mt_4 _ (List.mem_of_getElem? (i := 88) rfl)) rfl
theorem nq_258 : Cond.methodLink RX9 104 yX9_isFree ∈ wsG := mg (mt_4 _ (List.mem_of_getElem? (i := 89) rfl)) rfl
theorem nq_259 : Cond.instanceMethod yX9_isFree ∈ wsG := mg (mt_4 _ (List.mem_of_getElem? (i := 91) rfl)) rfl
theorem nq_260 : Cond.selects RX9 yX9_isFree yX9_isFree ∈ wsG := mg (mp_2 (_, 39) (List.mem_of_getElem? (i := 3) rfl)) rfl
theorem nq_261 : Cond.code yX9_isFree cX9_isFree 4 (some .boolean) ∈ wsG := mg (mt_4 _ (List.mem_of_getElem? (i := 92) rfl)) rfl
theorem nq_262 : Cond.methodLink RX9 97 yX9_writeHeld ∈ wsG := mg (mt_4 _ (List.mem_of_getElem? (i := 93) rfl)) rfl
theorem nq_263 : Cond.instanceMethod yX9_writeHeld ∈ wsG := mg (mt_4 _ (List.mem_of_getElem? (i := 95) rfl)) rfl
theorem nq_264 : Cond.selects RX9 yX9_writeHeld yX9_writeHeld ∈ wsG := mg (mp_2 (_, 39) (List.mem_of_getElem? (i := 4) rfl)) rfl
theorem nq_265 : Cond.code yX9_writeHeld cX9_writeHeld 1 (some .int) ∈ wsG := mg (mt_4 _ (List.mem_of_getElem? (i := 96) rfl)) rfl
theorem nq_266 : Cond.methodLink RX9 101 yX9_readHeld ∈ wsG := mg (mt_4 _ (List.mem_of_getElem? (i := 97) rfl)) rfl
theorem nq_267 : Cond.instanceMethod yX9_readHeld ∈ wsG := mg (mt_4 _ (List.mem_of_getElem? (i := 99) rfl)) rfl
theorem nq_268 : Cond.selects RX9 yX9_readHeld yX9_readHeld ∈ wsG := mg (mp_2 (_, 39) (List.mem_of_getElem? (i := 5) rfl)) rfl
theorem nq_269 : Cond.code yX9_readHeld cX9_readHeld 1 (some .int) ∈ wsG := mg (mt_4 _ (List.mem_of_getElem? (i := 100) rfl)) rfl
theorem nq_270 : Cond.methodLink RX9 150 yX9_aboutBy ∈ wsG := mg (mt_4 _ (List.mem_of_getElem? (i := 101) rfl)) rfl
theorem nq_271 : Cond.static yX9_aboutBy ∈ wsG := mg (mt_4 _ (List.mem_of_getElem? (i := 102) rfl)) rfl
theorem nq_272 : Cond.code yX9_aboutBy cX9_aboutBy 2 (some .int) ∈ wsG := mg (mt_4 _ (List.mem_of_getElem? (i := 103) rfl)) rfl
theorem nq_273 : Cond.methodLink RX9 135 yX9_go ∈ wsG := mg (mt_4 _ (List.mem_of_getElem? (i := 104) rfl)) rfl
theorem nq_274 : Cond.instanceMethod yX9_go ∈ wsG := mg (mt_4 _ (List.mem_of_getElem? (i := 106) rfl)) rfl
theorem nq_275 : Cond.selects RX9 yX9_go yX9_go ∈ wsG := mg (mp_2 (_, 39) (List.mem_of_getElem? (i := 6) rfl)) rfl
theorem nq_276 : Cond.code yX9_go cX9_go 5 none ∈ wsG := mg (mt_4 _ (List.mem_of_getElem? (i := 107) rfl)) rfl
theorem nq_277 : Cond.methodLink RL 27 yX8_trace ∈ wsG := mg (mt_2 _ (List.mem_of_getElem? (i := 69) rfl)) rfl
theorem nq_278 : Cond.instanceMethod yX8_trace ∈ wsG := mg (mt_2 _ (List.mem_of_getElem? (i := 70) rfl)) rfl
theorem nq_279 : Cond.selects RX8 yX8_trace yX8_trace ∈ wsG := mg (mt_2 _ (List.mem_of_getElem? (i := 71) rfl)) rfl
theorem nq_280 : Cond.code yX8_trace cX8_trace 2 (some .int) ∈ wsG := mg (mt_2 _ (List.mem_of_getElem? (i := 72) rfl)) rfl
theorem nq_281 : Cond.methodLink RX8 78 yX4_copy ∈ wsG := mg (mt_2 _ (List.mem_of_getElem? (i := 73) rfl)) rfl
theorem nq_282 : Cond.instanceMethod yX4_copy ∈ wsG := mg (mt_2 _ (List.mem_of_getElem? (i := 74) rfl)) rfl
theorem nq_283 : Cond.selects RX4 yX4_copy yX4_copy ∈ wsG := mg (mt_2 _ (List.mem_of_getElem? (i := 75) rfl)) rfl
theorem nq_284 : Cond.code yX4_copy cX4_copy 3 none ∈ wsG := mg (mt_2 _ (List.mem_of_getElem? (i := 76) rfl)) rfl
theorem nq_285 : Cond.methodLink RX4 71 yX4_put ∈ wsG := mg (mt_2 _ (List.mem_of_getElem? (i := 77) rfl)) rfl
theorem nq_286 : Cond.methodLink RL 30 yX9_trace ∈ wsG := mg (mt_4 _ (List.mem_of_getElem? (i := 108) rfl)) rfl
theorem nq_287 : Cond.instanceMethod yX9_trace ∈ wsG := mg (mt_4 _ (List.mem_of_getElem? (i := 109) rfl)) rfl
theorem nq_288 : Cond.selects RX9 yX9_trace yX9_trace ∈ wsG := mg (mt_4 _ (List.mem_of_getElem? (i := 110) rfl)) rfl
theorem nq_289 : Cond.code yX9_trace cX9_trace 2 (some .int) ∈ wsG := mg (mt_4 _ (List.mem_of_getElem? (i := 111) rfl)) rfl
theorem nq_290 : Cond.fieldLink RX9 156 "LockWatchModel" "acts" "I" ∈ wsG := mg (mt_3 _ (List.mem_of_getElem? (i := 178) rfl)) rfl
theorem nq_291 : Cond.methodLink RX9 128 yX9_many ∈ wsG := mg (mt_4 _ (List.mem_of_getElem? (i := 112) rfl)) rfl
theorem nq_292 : Cond.instanceMethod yX9_many ∈ wsG := mg (mt_4 _ (List.mem_of_getElem? (i := 114) rfl)) rfl
theorem nq_293 : Cond.selects RX9 yX9_many yX9_many ∈ wsG := mg (mp_2 (_, 39) (List.mem_of_getElem? (i := 7) rfl)) rfl
theorem nq_294 : Cond.code yX9_many cX9_many 2 (some .int) ∈ wsG := mg (mt_4 _ (List.mem_of_getElem? (i := 115) rfl)) rfl
theorem nq_295 : Cond.methodLink RL 31 yX8_step ∈ wsG := mg (mt_2 _ (List.mem_of_getElem? (i := 78) rfl)) rfl
theorem nq_296 : Cond.instanceMethod yX8_step ∈ wsG := mg (mt_2 _ (List.mem_of_getElem? (i := 79) rfl)) rfl
theorem nq_297 : Cond.selects RX8 yX8_step yX8_step ∈ wsG := mg (mt_2 _ (List.mem_of_getElem? (i := 80) rfl)) rfl
theorem nq_298 : Cond.code yX8_step cX8_step 3 (some .int) ∈ wsG := mg (mt_2 _ (List.mem_of_getElem? (i := 81) rfl)) rfl
theorem nq_299 : Cond.methodLink RX8 86 yX4_has ∈ wsG := mg (mt_2 _ (List.mem_of_getElem? (i := 82) rfl)) rfl
theorem nq_300 : Cond.instanceMethod yX4_has ∈ wsG := mg (mt_2 _ (List.mem_of_getElem? (i := 83) rfl)) rfl
theorem nq_301 : Cond.selects RX4 yX4_has yX4_has ∈ wsG := mg (mt_2 _ (List.mem_of_getElem? (i := 84) rfl)) rfl
theorem nq_302 : Cond.code yX4_has cX4_has 2 (some .boolean) ∈ wsG := mg (mt_2 _ (List.mem_of_getElem? (i := 85) rfl)) rfl
theorem nq_303 : Cond.methodLink RX8 89 yX4_threadAt ∈ wsG := mg (mt_2 _ (List.mem_of_getElem? (i := 86) rfl)) rfl
theorem nq_304 : Cond.instanceMethod yX4_threadAt ∈ wsG := mg (mt_2 _ (List.mem_of_getElem? (i := 87) rfl)) rfl
theorem nq_305 : Cond.selects RX4 yX4_threadAt yX4_threadAt ∈ wsG := mg (mt_2 _ (List.mem_of_getElem? (i := 88) rfl)) rfl
theorem nq_306 : Cond.code yX4_threadAt cX4_threadAt 2 (some .int) ∈ wsG := mg (mt_2 _ (List.mem_of_getElem? (i := 89) rfl)) rfl
theorem nq_307 : Cond.methodLink RX8 93 yX4_signAt ∈ wsG := mg (mt_2 _ (List.mem_of_getElem? (i := 90) rfl)) rfl
theorem nq_308 : Cond.instanceMethod yX4_signAt ∈ wsG := mg (mt_2 _ (List.mem_of_getElem? (i := 91) rfl)) rfl
theorem nq_309 : Cond.selects RX4 yX4_signAt yX4_signAt ∈ wsG := mg (mt_2 _ (List.mem_of_getElem? (i := 92) rfl)) rfl
theorem nq_310 : Cond.code yX4_signAt cX4_signAt 2 (some .int) ∈ wsG := mg (mt_2 _ (List.mem_of_getElem? (i := 93) rfl)) rfl
theorem nq_311 : Cond.methodLink RX8 96 yX4_aboutAt ∈ wsG := mg (mt_2 _ (List.mem_of_getElem? (i := 94) rfl)) rfl
theorem nq_312 : Cond.instanceMethod yX4_aboutAt ∈ wsG := mg (mt_2 _ (List.mem_of_getElem? (i := 95) rfl)) rfl
theorem nq_313 : Cond.selects RX4 yX4_aboutAt yX4_aboutAt ∈ wsG := mg (mt_2 _ (List.mem_of_getElem? (i := 96) rfl)) rfl
theorem nq_314 : Cond.code yX4_aboutAt cX4_aboutAt 2 (some .int) ∈ wsG := mg (mt_2 _ (List.mem_of_getElem? (i := 97) rfl)) rfl
theorem nq_315 : Cond.methodLink RL 35 yX9_step ∈ wsG := mg (mt_4 _ (List.mem_of_getElem? (i := 116) rfl)) rfl
theorem nq_316 : Cond.instanceMethod yX9_step ∈ wsG := mg (mt_4 _ (List.mem_of_getElem? (i := 117) rfl)) rfl
theorem nq_317 : Cond.selects RX9 yX9_step yX9_step ∈ wsG := mg (mt_4 _ (List.mem_of_getElem? (i := 118) rfl)) rfl
theorem nq_318 : Cond.code yX9_step cX9_step 3 (some .int) ∈ wsG := mg (mt_4 _ (List.mem_of_getElem? (i := 119) rfl)) rfl
theorem nq_319 : Cond.methodLink RX9 159 yX9_isStep ∈ wsG := mg (mt_4 _ (List.mem_of_getElem? (i := 120) rfl)) rfl
theorem nq_320 : Cond.instanceMethod yX9_isStep ∈ wsG := mg (mt_4 _ (List.mem_of_getElem? (i := 122) rfl)) rfl
theorem nq_321 : Cond.selects RX9 yX9_isStep yX9_isStep ∈ wsG := mg (mp_2 (_, 39) (List.mem_of_getElem? (i := 8) rfl)) rfl
theorem nq_322 : Cond.code yX9_isStep cX9_isStep 3 (some .boolean) ∈ wsG := mg (mt_4 _ (List.mem_of_getElem? (i := 123) rfl)) rfl
theorem nq_323 : Cond.methodLink RX9 162 yX9_findHeld ∈ wsG := mg (mt_4 _ (List.mem_of_getElem? (i := 124) rfl)) rfl
theorem nq_324 : Cond.instanceMethod yX9_findHeld ∈ wsG := mg (mt_4 _ (List.mem_of_getElem? (i := 126) rfl)) rfl
theorem nq_325 : Cond.selects RX9 yX9_findHeld yX9_findHeld ∈ wsG := mg (mp_2 (_, 39) (List.mem_of_getElem? (i := 9) rfl)) rfl
theorem nq_326 : Cond.code yX9_findHeld cX9_findHeld 4 none ∈ wsG := mg (mt_4 _ (List.mem_of_getElem? (i := 127) rfl)) rfl
theorem nq_327 : Cond.methodLink RX9 132 yX9_threadAt ∈ wsG := mg (mt_4 _ (List.mem_of_getElem? (i := 128) rfl)) rfl
theorem nq_328 : Cond.instanceMethod yX9_threadAt ∈ wsG := mg (mt_4 _ (List.mem_of_getElem? (i := 130) rfl)) rfl
theorem nq_329 : Cond.selects RX9 yX9_threadAt yX9_threadAt ∈ wsG := mg (mp_2 (_, 39) (List.mem_of_getElem? (i := 10) rfl)) rfl
theorem nq_330 : Cond.code yX9_threadAt cX9_threadAt 3 (some .int) ∈ wsG := mg (mt_4 _ (List.mem_of_getElem? (i := 131) rfl)) rfl
theorem nq_331 : Cond.methodLink RX9 115 yX9_signAt ∈ wsG := mg (mt_4 _ (List.mem_of_getElem? (i := 132) rfl)) rfl
theorem nq_332 : Cond.instanceMethod yX9_signAt ∈ wsG := mg (mt_4 _ (List.mem_of_getElem? (i := 134) rfl)) rfl
theorem nq_333 : Cond.selects RX9 yX9_signAt yX9_signAt ∈ wsG := mg (mp_2 (_, 39) (List.mem_of_getElem? (i := 11) rfl)) rfl
theorem nq_334 : Cond.code yX9_signAt cX9_signAt 3 (some .int) ∈ wsG := mg (mt_4 _ (List.mem_of_getElem? (i := 135) rfl)) rfl
theorem nq_335 : Cond.methodLink RX9 122 yX9_aboutAt ∈ wsG := mg (mt_4 _ (List.mem_of_getElem? (i := 136) rfl)) rfl
theorem nq_336 : Cond.instanceMethod yX9_aboutAt ∈ wsG := mg (mt_4 _ (List.mem_of_getElem? (i := 138) rfl)) rfl
theorem nq_337 : Cond.selects RX9 yX9_aboutAt yX9_aboutAt ∈ wsG := mg (mp_2 (_, 39) (List.mem_of_getElem? (i := 12) rfl)) rfl
theorem nq_338 : Cond.code yX9_aboutAt cX9_aboutAt 3 (some .int) ∈ wsG := mg (mt_4 _ (List.mem_of_getElem? (i := 139) rfl)) rfl
theorem nq_339 : Cond.methodLink RX9 166 yX9_letterOf ∈ wsG := mg (mt_4 _ (List.mem_of_getElem? (i := 140) rfl)) rfl
theorem nq_340 : Cond.static yX9_letterOf ∈ wsG := mg (mt_4 _ (List.mem_of_getElem? (i := 141) rfl)) rfl
theorem nq_341 : Cond.code yX9_letterOf cX9_letterOf 1 (some .int) ∈ wsG := mg (mt_4 _ (List.mem_of_getElem? (i := 142) rfl)) rfl
theorem nq_342 : Cond.methodLink RL 36 yX8_drop ∈ wsG := mg (mt_2 _ (List.mem_of_getElem? (i := 98) rfl)) rfl
theorem nq_343 : Cond.instanceMethod yX8_drop ∈ wsG := mg (mt_2 _ (List.mem_of_getElem? (i := 99) rfl)) rfl
theorem nq_344 : Cond.selects RX8 yX8_drop yX8_drop ∈ wsG := mg (mt_2 _ (List.mem_of_getElem? (i := 100) rfl)) rfl
theorem nq_345 : Cond.code yX8_drop cX8_drop 3 (some .int) ∈ wsG := mg (mt_2 _ (List.mem_of_getElem? (i := 101) rfl)) rfl
theorem nq_346 : Cond.methodLink RX8 109 yX4_takeOut ∈ wsG := mg (mt_2 _ (List.mem_of_getElem? (i := 102) rfl)) rfl
theorem nq_347 : Cond.instanceMethod yX4_takeOut ∈ wsG := mg (mt_2 _ (List.mem_of_getElem? (i := 103) rfl)) rfl
theorem nq_348 : Cond.selects RX4 yX4_takeOut yX4_takeOut ∈ wsG := mg (mt_2 _ (List.mem_of_getElem? (i := 104) rfl)) rfl
theorem nq_349 : Cond.code yX4_takeOut cX4_takeOut 5 (some .boolean) ∈ wsG := mg (mt_2 _ (List.mem_of_getElem? (i := 105) rfl)) rfl
theorem nq_350 : Cond.methodLink RX4 78 yX4_has ∈ wsG := mg (mt_2 _ (List.mem_of_getElem? (i := 106) rfl)) rfl
theorem nq_351 : Cond.methodLink RX4 81 yX4_replay ∈ wsG := mg (mt_2 _ (List.mem_of_getElem? (i := 107) rfl)) rfl
theorem nq_352 : Cond.instanceMethod yX4_replay ∈ wsG := mg (mt_2 _ (List.mem_of_getElem? (i := 109) rfl)) rfl
theorem nq_353 : Cond.selects RX4 yX4_replay yX4_replay ∈ wsG := mg (mp_1 (_, 9) (List.mem_of_getElem? (i := 3) rfl)) rfl
theorem nq_354 : Cond.code yX4_replay cX4_replay 3 (some .boolean) ∈ wsG := mg (mt_2 _ (List.mem_of_getElem? (i := 110) rfl)) rfl
theorem nq_355 : Cond.methodLink RX4 84 yX4_open ∈ wsG := mg (mt_2 _ (List.mem_of_getElem? (i := 111) rfl)) rfl
theorem nq_356 : Cond.instanceMethod yX4_open ∈ wsG := mg (mt_2 _ (List.mem_of_getElem? (i := 113) rfl)) rfl
theorem nq_357 : Cond.selects RX4 yX4_open yX4_open ∈ wsG := mg (mp_1 (_, 9) (List.mem_of_getElem? (i := 4) rfl)) rfl
theorem nq_358 : Cond.code yX4_open cX4_open 5 none ∈ wsG := mg (mt_2 _ (List.mem_of_getElem? (i := 114) rfl)) rfl
theorem nq_359 : Cond.methodLink RX8 112 yX0_push ∈ wsG := mg (mt_2 _ (List.mem_of_getElem? (i := 115) rfl)) rfl
theorem nq_360 : Cond.instanceMethod yX0_push ∈ wsG := mg (mt_2 _ (List.mem_of_getElem? (i := 116) rfl)) rfl
theorem nq_361 : Cond.selects RX0 yX0_push yX0_push ∈ wsG := mg (mt_2 _ (List.mem_of_getElem? (i := 117) rfl)) rfl
theorem nq_362 : Cond.code yX0_push cX0_push 4 none ∈ wsG := mg (mt_2 _ (List.mem_of_getElem? (i := 118) rfl)) rfl
theorem nq_363 : Cond.fieldLink RX0 18 "LockWatch$Acts" "size" "I" ∈ wsG := mg (mt_1 _ (List.mem_of_getElem? (i := 129) rfl)) rfl
theorem nq_364 : Cond.methodLink RL 39 yX9_drop ∈ wsG := mg (mt_4 _ (List.mem_of_getElem? (i := 143) rfl)) rfl
theorem nq_365 : Cond.instanceMethod yX9_drop ∈ wsG := mg (mt_4 _ (List.mem_of_getElem? (i := 144) rfl)) rfl
theorem nq_366 : Cond.selects RX9 yX9_drop yX9_drop ∈ wsG := mg (mt_4 _ (List.mem_of_getElem? (i := 145) rfl)) rfl
theorem nq_367 : Cond.code yX9_drop cX9_drop 2 (some .int) ∈ wsG := mg (mt_4 _ (List.mem_of_getElem? (i := 146) rfl)) rfl
theorem nq_368 : Cond.methodLink RX9 178 yX9_lay ∈ wsG := mg (mt_4 _ (List.mem_of_getElem? (i := 147) rfl)) rfl
theorem nq_369 : Cond.instanceMethod yX9_lay ∈ wsG := mg (mt_4 _ (List.mem_of_getElem? (i := 149) rfl)) rfl
theorem nq_370 : Cond.selects RX9 yX9_lay yX9_lay ∈ wsG := mg (mp_2 (_, 39) (List.mem_of_getElem? (i := 13) rfl)) rfl
theorem nq_371 : Cond.code yX9_lay cX9_lay 4 none ∈ wsG := mg (mt_4 _ (List.mem_of_getElem? (i := 150) rfl)) rfl
theorem nq_372 : Cond.methodLink RX9 182 yX9_dropOn ∈ wsG := mg (mt_4 _ (List.mem_of_getElem? (i := 151) rfl)) rfl
theorem nq_373 : Cond.instanceMethod yX9_dropOn ∈ wsG := mg (mt_4 _ (List.mem_of_getElem? (i := 153) rfl)) rfl
theorem nq_374 : Cond.selects RX9 yX9_dropOn yX9_dropOn ∈ wsG := mg (mp_2 (_, 39) (List.mem_of_getElem? (i := 14) rfl)) rfl
theorem nq_375 : Cond.code yX9_dropOn cX9_dropOn 4 none ∈ wsG := mg (mt_4 _ (List.mem_of_getElem? (i := 154) rfl)) rfl
theorem nq_376 : Cond.methodLink RX9 185 yX9_takeTrial ∈ wsG := mg (mt_4 _ (List.mem_of_getElem? (i := 155) rfl)) rfl
theorem nq_377 : Cond.instanceMethod yX9_takeTrial ∈ wsG := mg (mt_4 _ (List.mem_of_getElem? (i := 157) rfl)) rfl
theorem nq_378 : Cond.selects RX9 yX9_takeTrial yX9_takeTrial ∈ wsG := mg (mp_2 (_, 39) (List.mem_of_getElem? (i := 15) rfl)) rfl
theorem nq_379 : Cond.code yX9_takeTrial cX9_takeTrial 1 (some .boolean) ∈ wsG := mg (mt_4 _ (List.mem_of_getElem? (i := 158) rfl)) rfl
theorem nq_380 : Cond.methodLink RX9 172 yX9_isTrace ∈ wsG := mg (mt_4 _ (List.mem_of_getElem? (i := 159) rfl)) rfl
theorem nq_381 : Cond.instanceMethod yX9_isTrace ∈ wsG := mg (mt_4 _ (List.mem_of_getElem? (i := 161) rfl)) rfl
theorem nq_382 : Cond.selects RX9 yX9_isTrace yX9_isTrace ∈ wsG := mg (mp_3 (_, 39) (List.mem_of_getElem? (i := 0) rfl)) rfl
theorem nq_383 : Cond.code yX9_isTrace cX9_isTrace 5 (some .boolean) ∈ wsG := mg (mt_4 _ (List.mem_of_getElem? (i := 162) rfl)) rfl
theorem nq_384 : Cond.methodLink RX9 175 yX9_keepAct ∈ wsG := mg (mt_4 _ (List.mem_of_getElem? (i := 163) rfl)) rfl
theorem nq_385 : Cond.instanceMethod yX9_keepAct ∈ wsG := mg (mt_4 _ (List.mem_of_getElem? (i := 165) rfl)) rfl
theorem nq_386 : Cond.selects RX9 yX9_keepAct yX9_keepAct ∈ wsG := mg (mp_3 (_, 39) (List.mem_of_getElem? (i := 1) rfl)) rfl
theorem nq_387 : Cond.code yX9_keepAct cX9_keepAct 2 none ∈ wsG := mg (mt_4 _ (List.mem_of_getElem? (i := 166) rfl)) rfl
theorem nq_388 : Cond.fieldLink RX9 169 "LockWatchModel" "next" "I" ∈ wsG := mg (mt_3 _ (List.mem_of_getElem? (i := 179) rfl)) rfl
theorem nq_389 : Cond.methodLink RL 40 yX8_swap ∈ wsG := mg (mt_2 _ (List.mem_of_getElem? (i := 119) rfl)) rfl
theorem nq_390 : Cond.instanceMethod yX8_swap ∈ wsG := mg (mt_2 _ (List.mem_of_getElem? (i := 120) rfl)) rfl
theorem nq_391 : Cond.selects RX8 yX8_swap yX8_swap ∈ wsG := mg (mt_2 _ (List.mem_of_getElem? (i := 121) rfl)) rfl
theorem nq_392 : Cond.code yX8_swap cX8_swap 3 (some .int) ∈ wsG := mg (mt_2 _ (List.mem_of_getElem? (i := 122) rfl)) rfl
theorem nq_393 : Cond.methodLink RX8 116 yX4_hasPair ∈ wsG := mg (mt_2 _ (List.mem_of_getElem? (i := 123) rfl)) rfl
theorem nq_394 : Cond.instanceMethod yX4_hasPair ∈ wsG := mg (mt_2 _ (List.mem_of_getElem? (i := 124) rfl)) rfl
theorem nq_395 : Cond.selects RX4 yX4_hasPair yX4_hasPair ∈ wsG := mg (mt_2 _ (List.mem_of_getElem? (i := 125) rfl)) rfl
theorem nq_396 : Cond.code yX4_hasPair cX4_hasPair 2 (some .boolean) ∈ wsG := mg (mt_2 _ (List.mem_of_getElem? (i := 126) rfl)) rfl
theorem nq_397 : Cond.methodLink RX8 119 yX4_changePlaces ∈ wsG := mg (mt_2 _ (List.mem_of_getElem? (i := 127) rfl)) rfl
theorem nq_398 : Cond.instanceMethod yX4_changePlaces ∈ wsG := mg (mt_2 _ (List.mem_of_getElem? (i := 128) rfl)) rfl
theorem nq_399 : Cond.selects RX4 yX4_changePlaces yX4_changePlaces ∈ wsG := mg (mt_2 _ (List.mem_of_getElem? (i := 129) rfl)) rfl
theorem nq_400 : Cond.code yX4_changePlaces cX4_changePlaces 3 (some .boolean) ∈ wsG := mg (mt_2 _ (List.mem_of_getElem? (i := 130) rfl)) rfl
theorem nq_401 : Cond.methodLink RX4 87 yX4_hasPair ∈ wsG := mg (mt_2 _ (List.mem_of_getElem? (i := 131) rfl)) rfl
theorem nq_402 : Cond.methodLink RX4 90 yX4_exchange ∈ wsG := mg (mt_2 _ (List.mem_of_getElem? (i := 132) rfl)) rfl
theorem nq_403 : Cond.instanceMethod yX4_exchange ∈ wsG := mg (mt_2 _ (List.mem_of_getElem? (i := 134) rfl)) rfl
theorem nq_404 : Cond.selects RX4 yX4_exchange yX4_exchange ∈ wsG := mg (mp_1 (_, 9) (List.mem_of_getElem? (i := 5) rfl)) rfl
theorem nq_405 : Cond.code yX4_exchange cX4_exchange 3 none ∈ wsG := mg (mt_2 _ (List.mem_of_getElem? (i := 135) rfl)) rfl
theorem nq_406 : Cond.methodLink RL 43 yX9_swap ∈ wsG := mg (mt_4 _ (List.mem_of_getElem? (i := 167) rfl)) rfl
theorem nq_407 : Cond.instanceMethod yX9_swap ∈ wsG := mg (mt_4 _ (List.mem_of_getElem? (i := 168) rfl)) rfl
theorem nq_408 : Cond.selects RX9 yX9_swap yX9_swap ∈ wsG := mg (mt_4 _ (List.mem_of_getElem? (i := 169) rfl)) rfl
theorem nq_409 : Cond.code yX9_swap cX9_swap 3 (some .int) ∈ wsG := mg (mt_4 _ (List.mem_of_getElem? (i := 170) rfl)) rfl
theorem nq_410 : Cond.methodLink RX9 189 yX9_swapOn ∈ wsG := mg (mt_4 _ (List.mem_of_getElem? (i := 171) rfl)) rfl
theorem nq_411 : Cond.instanceMethod yX9_swapOn ∈ wsG := mg (mt_4 _ (List.mem_of_getElem? (i := 173) rfl)) rfl
theorem nq_412 : Cond.selects RX9 yX9_swapOn yX9_swapOn ∈ wsG := mg (mp_3 (_, 39) (List.mem_of_getElem? (i := 2) rfl)) rfl
theorem nq_413 : Cond.code yX9_swapOn cX9_swapOn 4 none ∈ wsG := mg (mt_4 _ (List.mem_of_getElem? (i := 174) rfl)) rfl
theorem nq_414 : Cond.methodLink RL 44 yX8_undo ∈ wsG := mg (mt_2 _ (List.mem_of_getElem? (i := 136) rfl)) rfl
theorem nq_415 : Cond.instanceMethod yX8_undo ∈ wsG := mg (mt_2 _ (List.mem_of_getElem? (i := 137) rfl)) rfl
theorem nq_416 : Cond.selects RX8 yX8_undo yX8_undo ∈ wsG := mg (mt_2 _ (List.mem_of_getElem? (i := 138) rfl)) rfl
theorem nq_417 : Cond.code yX8_undo cX8_undo 1 (some .int) ∈ wsG := mg (mt_2 _ (List.mem_of_getElem? (i := 139) rfl)) rfl
theorem nq_418 : Cond.methodLink RX8 122 yX0_takeBack ∈ wsG := mg (mt_2 _ (List.mem_of_getElem? (i := 140) rfl)) rfl
theorem nq_419 : Cond.instanceMethod yX0_takeBack ∈ wsG := mg (mt_2 _ (List.mem_of_getElem? (i := 141) rfl)) rfl
theorem nq_420 : Cond.selects RX0 yX0_takeBack yX0_takeBack ∈ wsG := mg (mt_2 _ (List.mem_of_getElem? (i := 142) rfl)) rfl
theorem nq_421 : Cond.code yX0_takeBack cX0_takeBack 2 none ∈ wsG := mg (mt_2 _ (List.mem_of_getElem? (i := 143) rfl)) rfl
theorem nq_422 : Cond.methodLink RX0 22 yX4_putBack ∈ wsG := mg (mt_2 _ (List.mem_of_getElem? (i := 144) rfl)) rfl
theorem nq_423 : Cond.instanceMethod yX4_putBack ∈ wsG := mg (mt_2 _ (List.mem_of_getElem? (i := 145) rfl)) rfl
theorem nq_424 : Cond.selects RX4 yX4_putBack yX4_putBack ∈ wsG := mg (mt_2 _ (List.mem_of_getElem? (i := 146) rfl)) rfl
theorem nq_425 : Cond.code yX4_putBack cX4_putBack 4 none ∈ wsG := mg (mt_2 _ (List.mem_of_getElem? (i := 147) rfl)) rfl
theorem nq_426 : Cond.methodLink RX0 28 yX4_changePlaces ∈ wsG := mg (mt_2 _ (List.mem_of_getElem? (i := 148) rfl)) rfl
theorem nq_427 : Cond.methodLink RL 47 yX9_undo ∈ wsG := mg (mt_4 _ (List.mem_of_getElem? (i := 175) rfl)) rfl
theorem nq_428 : Cond.instanceMethod yX9_undo ∈ wsG := mg (mt_4 _ (List.mem_of_getElem? (i := 176) rfl)) rfl
theorem nq_429 : Cond.selects RX9 yX9_undo yX9_undo ∈ wsG := mg (mt_4 _ (List.mem_of_getElem? (i := 177) rfl)) rfl
theorem nq_430 : Cond.code yX9_undo cX9_undo 2 (some .int) ∈ wsG := mg (mt_4 _ (List.mem_of_getElem? (i := 178) rfl)) rfl
theorem nq_431 : Cond.methodLink RL 48 yX8_cell ∈ wsG := mg (mt_2 _ (List.mem_of_getElem? (i := 149) rfl)) rfl
theorem nq_432 : Cond.instanceMethod yX8_cell ∈ wsG := mg (mt_2 _ (List.mem_of_getElem? (i := 150) rfl)) rfl
theorem nq_433 : Cond.selects RX8 yX8_cell yX8_cell ∈ wsG := mg (mt_2 _ (List.mem_of_getElem? (i := 151) rfl)) rfl
theorem nq_434 : Cond.code yX8_cell cX8_cell 5 (some .int) ∈ wsG := mg (mt_2 _ (List.mem_of_getElem? (i := 152) rfl)) rfl
theorem nq_435 : Cond.methodLink RX8 125 yX8_isOneOfFour ∈ wsG := mg (mt_2 _ (List.mem_of_getElem? (i := 153) rfl)) rfl
theorem nq_436 : Cond.methodLink RX8 128 yX1_watch ∈ wsG := mg (mt_2 _ (List.mem_of_getElem? (i := 154) rfl)) rfl
theorem nq_437 : Cond.static yX1_watch ∈ wsG := mg (mt_2 _ (List.mem_of_getElem? (i := 155) rfl)) rfl
theorem nq_438 : Cond.initialized RX1 ∈ wsG := mg (mt_1 _ (List.mem_of_getElem? (i := 11) rfl)) rfl
theorem nq_439 : Cond.code yX1_watch cX1_watch 7 (some .int) ∈ wsG := mg (mt_2 _ (List.mem_of_getElem? (i := 156) rfl)) rfl
theorem nq_440 : Cond.methodLink RX1 32 yX4_touchesAt ∈ wsG := mg (mt_2 _ (List.mem_of_getElem? (i := 157) rfl)) rfl
theorem nq_441 : Cond.instanceMethod yX4_touchesAt ∈ wsG := mg (mt_2 _ (List.mem_of_getElem? (i := 158) rfl)) rfl
theorem nq_442 : Cond.selects RX4 yX4_touchesAt yX4_touchesAt ∈ wsG := mg (mt_2 _ (List.mem_of_getElem? (i := 159) rfl)) rfl
theorem nq_443 : Cond.code yX4_touchesAt cX4_touchesAt 3 (some .boolean) ∈ wsG := mg (mt_2 _ (List.mem_of_getElem? (i := 160) rfl)) rfl
theorem nq_444 : Cond.methodLink RX4 75 yX4_isTouch ∈ wsG := mg (mt_2 _ (List.mem_of_getElem? (i := 161) rfl)) rfl
theorem nq_445 : Cond.instanceMethod yX4_isTouch ∈ wsG := mg (mt_2 _ (List.mem_of_getElem? (i := 162) rfl)) rfl
theorem nq_446 : Cond.selects RX4 yX4_isTouch yX4_isTouch ∈ wsG := mg (mt_2 _ (List.mem_of_getElem? (i := 163) rfl)) rfl
theorem nq_447 : Cond.code yX4_isTouch cX4_isTouch 3 (some .boolean) ∈ wsG := mg (mt_2 _ (List.mem_of_getElem? (i := 164) rfl)) rfl
theorem nq_448 : Cond.methodLink RX1 36 yX1_touch ∈ wsG := mg (mt_2 _ (List.mem_of_getElem? (i := 165) rfl)) rfl
theorem nq_449 : Cond.static yX1_touch ∈ wsG := mg (mt_2 _ (List.mem_of_getElem? (i := 166) rfl)) rfl
theorem nq_450 : Cond.code yX1_touch cX1_touch 8 (some .int) ∈ wsG := mg (mt_2 _ (List.mem_of_getElem? (i := 167) rfl)) rfl
theorem nq_451 : Cond.methodLink RX1 11 yX1_stateOf ∈ wsG := mg (mt_2 _ (List.mem_of_getElem? (i := 168) rfl)) rfl
theorem nq_452 : Cond.static yX1_stateOf ∈ wsG := mg (mt_2 _ (List.mem_of_getElem? (i := 169) rfl)) rfl
theorem nq_453 : Cond.code yX1_stateOf cX1_stateOf 1 (some .int) ∈ wsG := mg (mt_2 _ (List.mem_of_getElem? (i := 170) rfl)) rfl
theorem nq_454 : Cond.methodLink RX1 15 yX4_threadAt ∈ wsG := mg (mt_2 _ (List.mem_of_getElem? (i := 171) rfl)) rfl
theorem nq_455 : Cond.methodLink RX1 20 yX4_writesAt ∈ wsG := mg (mt_2 _ (List.mem_of_getElem? (i := 172) rfl)) rfl
theorem nq_456 : Cond.instanceMethod yX4_writesAt ∈ wsG := mg (mt_2 _ (List.mem_of_getElem? (i := 173) rfl)) rfl
theorem nq_457 : Cond.selects RX4 yX4_writesAt yX4_writesAt ∈ wsG := mg (mt_2 _ (List.mem_of_getElem? (i := 174) rfl)) rfl
theorem nq_458 : Cond.code yX4_writesAt cX4_writesAt 2 (some .boolean) ∈ wsG := mg (mt_2 _ (List.mem_of_getElem? (i := 175) rfl)) rfl
theorem nq_459 : Cond.methodLink RX8 134 yX1_stateOf ∈ wsG := mg (mt_2 _ (List.mem_of_getElem? (i := 176) rfl)) rfl
theorem nq_460 : Cond.methodLink RX8 137 yX1_candidatesOf ∈ wsG := mg (mt_2 _ (List.mem_of_getElem? (i := 177) rfl)) rfl
theorem nq_461 : Cond.static yX1_candidatesOf ∈ wsG := mg (mt_2 _ (List.mem_of_getElem? (i := 178) rfl)) rfl
theorem nq_462 : Cond.code yX1_candidatesOf cX1_candidatesOf 1 (some .int) ∈ wsG := mg (mt_2 _ (List.mem_of_getElem? (i := 179) rfl)) rfl
theorem nq_463 : Cond.methodLink RX8 140 yX1_ownerOf ∈ wsG := mg (mt_2 _ (List.mem_of_getElem? (i := 180) rfl)) rfl
theorem nq_464 : Cond.static yX1_ownerOf ∈ wsG := mg (mt_2 _ (List.mem_of_getElem? (i := 181) rfl)) rfl
theorem nq_465 : Cond.code yX1_ownerOf cX1_ownerOf 1 (some .int) ∈ wsG := mg (mt_2 _ (List.mem_of_getElem? (i := 182) rfl)) rfl
theorem nq_466 : Cond.methodLink RX8 143 yX1_flaggedBy ∈ wsG := mg (mt_2 _ (List.mem_of_getElem? (i := 183) rfl)) rfl
theorem nq_467 : Cond.static yX1_flaggedBy ∈ wsG := mg (mt_2 _ (List.mem_of_getElem? (i := 184) rfl)) rfl
theorem nq_468 : Cond.code yX1_flaggedBy cX1_flaggedBy 5 (some .int) ∈ wsG := mg (mt_2 _ (List.mem_of_getElem? (i := 185) rfl)) rfl
theorem nq_469 : Cond.methodLink RX8 147 yX1_touches ∈ wsG := mg (mt_2 _ (List.mem_of_getElem? (i := 186) rfl)) rfl
theorem nq_470 : Cond.static yX1_touches ∈ wsG := mg (mt_2 _ (List.mem_of_getElem? (i := 187) rfl)) rfl
theorem nq_471 : Cond.code yX1_touches cX1_touches 5 (some .int) ∈ wsG := mg (mt_2 _ (List.mem_of_getElem? (i := 188) rfl)) rfl
theorem nq_472 : Cond.methodLink RL 52 yX9_cell ∈ wsG := mg (mt_4 _ (List.mem_of_getElem? (i := 179) rfl)) rfl
theorem nq_473 : Cond.instanceMethod yX9_cell ∈ wsG := mg (mt_4 _ (List.mem_of_getElem? (i := 180) rfl)) rfl
theorem nq_474 : Cond.selects RX9 yX9_cell yX9_cell ∈ wsG := mg (mt_4 _ (List.mem_of_getElem? (i := 181) rfl)) rfl
theorem nq_475 : Cond.code yX9_cell cX9_cell 4 (some .int) ∈ wsG := mg (mt_4 _ (List.mem_of_getElem? (i := 182) rfl)) rfl
theorem nq_476 : Cond.constantLong RX9 219 (4) ∈ wsG := mg (mt_4 _ (List.mem_of_getElem? (i := 186) rfl)) rfl
theorem nq_477 : Cond.fieldLink RX9 198 "LockWatchModel" "state" "I" ∈ wsG := mg (mt_3 _ (List.mem_of_getElem? (i := 181) rfl)) rfl
theorem nq_478 : Cond.fieldLink RX9 204 "LockWatchModel" "candidates" "I" ∈ wsG := mg (mt_3 _ (List.mem_of_getElem? (i := 182) rfl)) rfl
theorem nq_479 : Cond.fieldLink RX9 201 "LockWatchModel" "owner" "I" ∈ wsG := mg (mt_3 _ (List.mem_of_getElem? (i := 183) rfl)) rfl
theorem nq_480 : Cond.fieldLink RX9 207 "LockWatchModel" "flagged" "I" ∈ wsG := mg (mt_3 _ (List.mem_of_getElem? (i := 184) rfl)) rfl
theorem nq_481 : Cond.fieldLink RX9 195 "LockWatchModel" "touches" "I" ∈ wsG := mg (mt_3 _ (List.mem_of_getElem? (i := 185) rfl)) rfl
theorem nq_482 : Cond.methodLink RX9 216 yX9_isFour ∈ wsG := mg (mt_4 _ (List.mem_of_getElem? (i := 183) rfl)) rfl
theorem nq_483 : Cond.static yX9_isFour ∈ wsG := mg (mt_4 _ (List.mem_of_getElem? (i := 184) rfl)) rfl
theorem nq_484 : Cond.code yX9_isFour cX9_isFour 1 (some .boolean) ∈ wsG := mg (mt_4 _ (List.mem_of_getElem? (i := 185) rfl)) rfl
theorem nq_485 : Cond.methodLink RX9 221 yX9_watchCell ∈ wsG := mg (mt_4 _ (List.mem_of_getElem? (i := 187) rfl)) rfl
theorem nq_486 : Cond.instanceMethod yX9_watchCell ∈ wsG := mg (mt_4 _ (List.mem_of_getElem? (i := 189) rfl)) rfl
theorem nq_487 : Cond.selects RX9 yX9_watchCell yX9_watchCell ∈ wsG := mg (mp_3 (_, 39) (List.mem_of_getElem? (i := 3) rfl)) rfl
theorem nq_488 : Cond.code yX9_watchCell cX9_watchCell 7 none ∈ wsG := mg (mt_4 _ (List.mem_of_getElem? (i := 190) rfl)) rfl
theorem nq_489 : Cond.methodLink RX9 210 yX9_isTouchOf ∈ wsG := mg (mt_4 _ (List.mem_of_getElem? (i := 191) rfl)) rfl
theorem nq_490 : Cond.instanceMethod yX9_isTouchOf ∈ wsG := mg (mt_4 _ (List.mem_of_getElem? (i := 193) rfl)) rfl
theorem nq_491 : Cond.selects RX9 yX9_isTouchOf yX9_isTouchOf ∈ wsG := mg (mp_3 (_, 39) (List.mem_of_getElem? (i := 4) rfl)) rfl
theorem nq_492 : Cond.code yX9_isTouchOf cX9_isTouchOf 4 (some .boolean) ∈ wsG := mg (mt_4 _ (List.mem_of_getElem? (i := 194) rfl)) rfl
theorem nq_493 : Cond.methodLink RX9 119 yX9_isTouch ∈ wsG := mg (mt_4 _ (List.mem_of_getElem? (i := 195) rfl)) rfl
theorem nq_494 : Cond.instanceMethod yX9_isTouch ∈ wsG := mg (mt_4 _ (List.mem_of_getElem? (i := 197) rfl)) rfl
theorem nq_495 : Cond.selects RX9 yX9_isTouch yX9_isTouch ∈ wsG := mg (mp_3 (_, 39) (List.mem_of_getElem? (i := 5) rfl)) rfl
theorem nq_496 : Cond.code yX9_isTouch cX9_isTouch 3 (some .boolean) ∈ wsG := mg (mt_4 _ (List.mem_of_getElem? (i := 198) rfl)) rfl
theorem nq_497 : Cond.methodLink RX9 213 yX9_watch ∈ wsG := mg (mt_4 _ (List.mem_of_getElem? (i := 199) rfl)) rfl
theorem nq_498 : Cond.instanceMethod yX9_watch ∈ wsG := mg (mt_4 _ (List.mem_of_getElem? (i := 201) rfl)) rfl
theorem nq_499 : Cond.selects RX9 yX9_watch yX9_watch ∈ wsG := mg (mp_3 (_, 39) (List.mem_of_getElem? (i := 6) rfl)) rfl
theorem nq_500 : Cond.code yX9_watch cX9_watch 7 none ∈ wsG := mg (mt_4 _ (List.mem_of_getElem? (i := 202) rfl)) rfl
theorem nq_501 : Cond.methodLink RX9 192 yX9_guardsOf ∈ wsG := mg (mt_4 _ (List.mem_of_getElem? (i := 203) rfl)) rfl
theorem nq_502 : Cond.instanceMethod yX9_guardsOf ∈ wsG := mg (mt_4 _ (List.mem_of_getElem? (i := 205) rfl)) rfl
theorem nq_503 : Cond.selects RX9 yX9_guardsOf yX9_guardsOf ∈ wsG := mg (mp_3 (_, 39) (List.mem_of_getElem? (i := 7) rfl)) rfl
theorem nq_504 : Cond.code yX9_guardsOf cX9_guardsOf 3 (some .int) ∈ wsG := mg (mt_4 _ (List.mem_of_getElem? (i := 206) rfl)) rfl
theorem nq_505 : Cond.methodLink RL 53 yX8_ahead ∈ wsG := mg (mt_2 _ (List.mem_of_getElem? (i := 189) rfl)) rfl
theorem nq_506 : Cond.instanceMethod yX8_ahead ∈ wsG := mg (mt_2 _ (List.mem_of_getElem? (i := 190) rfl)) rfl
theorem nq_507 : Cond.selects RX8 yX8_ahead yX8_ahead ∈ wsG := mg (mt_2 _ (List.mem_of_getElem? (i := 191) rfl)) rfl
theorem nq_508 : Cond.code yX8_ahead cX8_ahead 3 (some .int) ∈ wsG := mg (mt_2 _ (List.mem_of_getElem? (i := 192) rfl)) rfl
theorem nq_509 : Cond.methodLink RX8 150 yX4_isAhead ∈ wsG := mg (mt_2 _ (List.mem_of_getElem? (i := 193) rfl)) rfl
theorem nq_510 : Cond.instanceMethod yX4_isAhead ∈ wsG := mg (mt_2 _ (List.mem_of_getElem? (i := 194) rfl)) rfl
theorem nq_511 : Cond.selects RX4 yX4_isAhead yX4_isAhead ∈ wsG := mg (mt_2 _ (List.mem_of_getElem? (i := 195) rfl)) rfl
theorem nq_512 : Cond.code yX4_isAhead cX4_isAhead 3 (some .boolean) ∈ wsG := mg (mt_2 _ (List.mem_of_getElem? (i := 196) rfl)) rfl
theorem nq_513 : Cond.methodLink RL 56 yX9_ahead ∈ wsG := mg (mt_4 _ (List.mem_of_getElem? (i := 207) rfl)) rfl
theorem nq_514 : Cond.instanceMethod yX9_ahead ∈ wsG := mg (mt_4 _ (List.mem_of_getElem? (i := 208) rfl)) rfl
theorem nq_515 : Cond.selects RX9 yX9_ahead yX9_ahead ∈ wsG := mg (mt_4 _ (List.mem_of_getElem? (i := 209) rfl)) rfl
theorem nq_516 : Cond.code yX9_ahead cX9_ahead 3 (some .int) ∈ wsG := mg (mt_4 _ (List.mem_of_getElem? (i := 210) rfl)) rfl
theorem nq_517 : Cond.methodLink RX9 229 yX9_findBefore ∈ wsG := mg (mt_4 _ (List.mem_of_getElem? (i := 211) rfl)) rfl
theorem nq_518 : Cond.instanceMethod yX9_findBefore ∈ wsG := mg (mt_4 _ (List.mem_of_getElem? (i := 213) rfl)) rfl
theorem nq_519 : Cond.selects RX9 yX9_findBefore yX9_findBefore ∈ wsG := mg (mp_3 (_, 39) (List.mem_of_getElem? (i := 8) rfl)) rfl
theorem nq_520 : Cond.code yX9_findBefore cX9_findBefore 6 none ∈ wsG := mg (mt_4 _ (List.mem_of_getElem? (i := 214) rfl)) rfl
theorem nq_521 : Cond.methodLink RX9 225 yX9_allBefore ∈ wsG := mg (mt_4 _ (List.mem_of_getElem? (i := 215) rfl)) rfl
theorem nq_522 : Cond.instanceMethod yX9_allBefore ∈ wsG := mg (mt_4 _ (List.mem_of_getElem? (i := 217) rfl)) rfl
theorem nq_523 : Cond.selects RX9 yX9_allBefore yX9_allBefore ∈ wsG := mg (mp_3 (_, 39) (List.mem_of_getElem? (i := 9) rfl)) rfl
theorem nq_524 : Cond.code yX9_allBefore cX9_allBefore 6 (some .int) ∈ wsG := mg (mt_4 _ (List.mem_of_getElem? (i := 218) rfl)) rfl
theorem nq_525 : Cond.methodLink RL 57 yX8_meetings ∈ wsG := mg (mt_2 _ (List.mem_of_getElem? (i := 197) rfl)) rfl
theorem nq_526 : Cond.instanceMethod yX8_meetings ∈ wsG := mg (mt_2 _ (List.mem_of_getElem? (i := 198) rfl)) rfl
theorem nq_527 : Cond.selects RX8 yX8_meetings yX8_meetings ∈ wsG := mg (mt_2 _ (List.mem_of_getElem? (i := 199) rfl)) rfl
theorem nq_528 : Cond.code yX8_meetings cX8_meetings 3 (some .int) ∈ wsG := mg (mt_2 _ (List.mem_of_getElem? (i := 200) rfl)) rfl
theorem nq_529 : Cond.methodLink RX8 154 yX1_meetingCount ∈ wsG := mg (mt_2 _ (List.mem_of_getElem? (i := 201) rfl)) rfl
theorem nq_530 : Cond.static yX1_meetingCount ∈ wsG := mg (mt_2 _ (List.mem_of_getElem? (i := 202) rfl)) rfl
theorem nq_531 : Cond.code yX1_meetingCount cX1_meetingCount 5 (some .int) ∈ wsG := mg (mt_2 _ (List.mem_of_getElem? (i := 203) rfl)) rfl
theorem nq_532 : Cond.methodLink RX1 56 yX1_meet ∈ wsG := mg (mt_2 _ (List.mem_of_getElem? (i := 204) rfl)) rfl
theorem nq_533 : Cond.static yX1_meet ∈ wsG := mg (mt_2 _ (List.mem_of_getElem? (i := 205) rfl)) rfl
theorem nq_534 : Cond.code yX1_meet cX1_meet 4 (some .boolean) ∈ wsG := mg (mt_2 _ (List.mem_of_getElem? (i := 206) rfl)) rfl
theorem nq_535 : Cond.methodLink RX1 53 yX4_isAhead ∈ wsG := mg (mt_2 _ (List.mem_of_getElem? (i := 207) rfl)) rfl
theorem nq_536 : Cond.methodLink RX8 158 yX1_leastMeeting ∈ wsG := mg (mt_2 _ (List.mem_of_getElem? (i := 208) rfl)) rfl
theorem nq_537 : Cond.static yX1_leastMeeting ∈ wsG := mg (mt_2 _ (List.mem_of_getElem? (i := 209) rfl)) rfl
theorem nq_538 : Cond.code yX1_leastMeeting cX1_leastMeeting 4 (some .int) ∈ wsG := mg (mt_2 _ (List.mem_of_getElem? (i := 210) rfl)) rfl
theorem nq_539 : Cond.methodLink RL 60 yX9_meetings ∈ wsG := mg (mt_4 _ (List.mem_of_getElem? (i := 219) rfl)) rfl
theorem nq_540 : Cond.instanceMethod yX9_meetings ∈ wsG := mg (mt_4 _ (List.mem_of_getElem? (i := 220) rfl)) rfl
theorem nq_541 : Cond.selects RX9 yX9_meetings yX9_meetings ∈ wsG := mg (mt_4 _ (List.mem_of_getElem? (i := 221) rfl)) rfl
theorem nq_542 : Cond.code yX9_meetings cX9_meetings 4 (some .int) ∈ wsG := mg (mt_4 _ (List.mem_of_getElem? (i := 222) rfl)) rfl
theorem nq_543 : Cond.fieldLink RX9 232 "LockWatchModel" "firstMeeting" "I" ∈ wsG := mg (mt_3 _ (List.mem_of_getElem? (i := 187) rfl)) rfl
theorem nq_544 : Cond.methodLink RX9 238 yX9_meetingsOf ∈ wsG := mg (mt_4 _ (List.mem_of_getElem? (i := 223) rfl)) rfl
theorem nq_545 : Cond.instanceMethod yX9_meetingsOf ∈ wsG := mg (mt_4 _ (List.mem_of_getElem? (i := 225) rfl)) rfl
theorem nq_546 : Cond.selects RX9 yX9_meetingsOf yX9_meetingsOf ∈ wsG := mg (mp_3 (_, 39) (List.mem_of_getElem? (i := 10) rfl)) rfl
theorem nq_547 : Cond.code yX9_meetingsOf cX9_meetingsOf 5 (some .int) ∈ wsG := mg (mt_4 _ (List.mem_of_getElem? (i := 226) rfl)) rfl
theorem nq_548 : Cond.methodLink RX9 235 yX9_areMeeting ∈ wsG := mg (mt_4 _ (List.mem_of_getElem? (i := 227) rfl)) rfl
theorem nq_549 : Cond.instanceMethod yX9_areMeeting ∈ wsG := mg (mt_4 _ (List.mem_of_getElem? (i := 229) rfl)) rfl
theorem nq_550 : Cond.selects RX9 yX9_areMeeting yX9_areMeeting ∈ wsG := mg (mp_3 (_, 39) (List.mem_of_getElem? (i := 11) rfl)) rfl
theorem nq_551 : Cond.code yX9_areMeeting cX9_areMeeting 5 (some .boolean) ∈ wsG := mg (mt_4 _ (List.mem_of_getElem? (i := 230) rfl)) rfl
theorem nq_552 : Cond.methodLink RL 61 yX8_edges ∈ wsG := mg (mt_2 _ (List.mem_of_getElem? (i := 211) rfl)) rfl
theorem nq_553 : Cond.instanceMethod yX8_edges ∈ wsG := mg (mt_2 _ (List.mem_of_getElem? (i := 212) rfl)) rfl
theorem nq_554 : Cond.selects RX8 yX8_edges yX8_edges ∈ wsG := mg (mt_2 _ (List.mem_of_getElem? (i := 213) rfl)) rfl
theorem nq_555 : Cond.code yX8_edges cX8_edges 2 (some .int) ∈ wsG := mg (mt_2 _ (List.mem_of_getElem? (i := 214) rfl)) rfl
theorem nq_556 : Cond.methodLink RX8 161 yX3_collect ∈ wsG := mg (mt_2 _ (List.mem_of_getElem? (i := 215) rfl)) rfl
theorem nq_557 : Cond.instanceMethod yX3_collect ∈ wsG := mg (mt_2 _ (List.mem_of_getElem? (i := 216) rfl)) rfl
theorem nq_558 : Cond.selects RX3 yX3_collect yX3_collect ∈ wsG := mg (mt_2 _ (List.mem_of_getElem? (i := 217) rfl)) rfl
theorem nq_559 : Cond.code yX3_collect cX3_collect 4 none ∈ wsG := mg (mt_2 _ (List.mem_of_getElem? (i := 218) rfl)) rfl
theorem nq_560 : Cond.fieldLink RX3 31 "LockWatch$Rings" "size" "I" ∈ wsG := mg (mt_1 _ (List.mem_of_getElem? (i := 167) rfl)) rfl
theorem nq_561 : Cond.methodLink RX3 37 yX4_takesAt ∈ wsG := mg (mt_2 _ (List.mem_of_getElem? (i := 219) rfl)) rfl
theorem nq_562 : Cond.instanceMethod yX4_takesAt ∈ wsG := mg (mt_2 _ (List.mem_of_getElem? (i := 220) rfl)) rfl
theorem nq_563 : Cond.selects RX4 yX4_takesAt yX4_takesAt ∈ wsG := mg (mt_2 _ (List.mem_of_getElem? (i := 221) rfl)) rfl
theorem nq_564 : Cond.code yX4_takesAt cX4_takesAt 3 (some .boolean) ∈ wsG := mg (mt_2 _ (List.mem_of_getElem? (i := 222) rfl)) rfl
theorem nq_565 : Cond.methodLink RX3 41 yX4_heldAt ∈ wsG := mg (mt_2 _ (List.mem_of_getElem? (i := 223) rfl)) rfl
theorem nq_566 : Cond.instanceMethod yX4_heldAt ∈ wsG := mg (mt_2 _ (List.mem_of_getElem? (i := 224) rfl)) rfl
theorem nq_567 : Cond.selects RX4 yX4_heldAt yX4_heldAt ∈ wsG := mg (mt_2 _ (List.mem_of_getElem? (i := 225) rfl)) rfl
theorem nq_568 : Cond.code yX4_heldAt cX4_heldAt 2 (some .int) ∈ wsG := mg (mt_2 _ (List.mem_of_getElem? (i := 226) rfl)) rfl
theorem nq_569 : Cond.methodLink RX3 45 yX4_aboutAt ∈ wsG := mg (mt_2 _ (List.mem_of_getElem? (i := 227) rfl)) rfl
theorem nq_570 : Cond.methodLink RX8 165 yX3_between ∈ wsG := mg (mt_2 _ (List.mem_of_getElem? (i := 228) rfl)) rfl
theorem nq_571 : Cond.instanceMethod yX3_between ∈ wsG := mg (mt_2 _ (List.mem_of_getElem? (i := 229) rfl)) rfl
theorem nq_572 : Cond.selects RX3 yX3_between yX3_between ∈ wsG := mg (mt_2 _ (List.mem_of_getElem? (i := 230) rfl)) rfl
theorem nq_573 : Cond.code yX3_between cX3_between 5 (some .int) ∈ wsG := mg (mt_2 _ (List.mem_of_getElem? (i := 231) rfl)) rfl
theorem nq_574 : Cond.methodLink RL 64 yX9_edges ∈ wsG := mg (mt_4 _ (List.mem_of_getElem? (i := 231) rfl)) rfl
theorem nq_575 : Cond.instanceMethod yX9_edges ∈ wsG := mg (mt_4 _ (List.mem_of_getElem? (i := 232) rfl)) rfl
theorem nq_576 : Cond.selects RX9 yX9_edges yX9_edges ∈ wsG := mg (mt_4 _ (List.mem_of_getElem? (i := 233) rfl)) rfl
theorem nq_577 : Cond.code yX9_edges cX9_edges 4 (some .int) ∈ wsG := mg (mt_4 _ (List.mem_of_getElem? (i := 234) rfl)) rfl
theorem nq_578 : Cond.constantLong RX9 244 (16) ∈ wsG := mg (mt_4 _ (List.mem_of_getElem? (i := 235) rfl)) rfl
theorem nq_579 : Cond.fieldLink RX9 241 "LockWatchModel" "manyEdges" "I" ∈ wsG := mg (mt_3 _ (List.mem_of_getElem? (i := 188) rfl)) rfl
theorem nq_580 : Cond.methodLink RX9 246 yX9_findEdges ∈ wsG := mg (mt_4 _ (List.mem_of_getElem? (i := 236) rfl)) rfl
theorem nq_581 : Cond.instanceMethod yX9_findEdges ∈ wsG := mg (mt_4 _ (List.mem_of_getElem? (i := 238) rfl)) rfl
theorem nq_582 : Cond.selects RX9 yX9_findEdges yX9_findEdges ∈ wsG := mg (mp_3 (_, 39) (List.mem_of_getElem? (i := 12) rfl)) rfl
theorem nq_583 : Cond.code yX9_findEdges cX9_findEdges 4 none ∈ wsG := mg (mt_4 _ (List.mem_of_getElem? (i := 239) rfl)) rfl
theorem nq_584 : Cond.methodLink RL 65 yX8_rings ∈ wsG := mg (mt_2 _ (List.mem_of_getElem? (i := 232) rfl)) rfl
theorem nq_585 : Cond.instanceMethod yX8_rings ∈ wsG := mg (mt_2 _ (List.mem_of_getElem? (i := 233) rfl)) rfl
theorem nq_586 : Cond.selects RX8 yX8_rings yX8_rings ∈ wsG := mg (mt_2 _ (List.mem_of_getElem? (i := 234) rfl)) rfl
theorem nq_587 : Cond.code yX8_rings cX8_rings 3 (some .int) ∈ wsG := mg (mt_2 _ (List.mem_of_getElem? (i := 235) rfl)) rfl
theorem nq_588 : Cond.methodLink RX8 169 yX3_find ∈ wsG := mg (mt_2 _ (List.mem_of_getElem? (i := 236) rfl)) rfl
theorem nq_589 : Cond.instanceMethod yX3_find ∈ wsG := mg (mt_2 _ (List.mem_of_getElem? (i := 237) rfl)) rfl
theorem nq_590 : Cond.selects RX3 yX3_find yX3_find ∈ wsG := mg (mt_2 _ (List.mem_of_getElem? (i := 238) rfl)) rfl
theorem nq_591 : Cond.code yX3_find cX3_find 3 none ∈ wsG := mg (mt_2 _ (List.mem_of_getElem? (i := 239) rfl)) rfl
theorem nq_592 : Cond.methodLink RX3 48 yX3_collect ∈ wsG := mg (mt_3 _ (List.mem_of_getElem? (i := 0) rfl)) rfl
theorem nq_593 : Cond.methodLink RX3 52 yJ7_fill_53178 ∈ wsG := mg (mt_3 _ (List.mem_of_getElem? (i := 1) rfl)) rfl
theorem nq_594 : Cond.methodLink RX3 58 yX4_threadAt ∈ wsG := mg (mt_3 _ (List.mem_of_getElem? (i := 2) rfl)) rfl
theorem nq_595 : Cond.methodLink RX3 61 yX3_grow ∈ wsG := mg (mt_3 _ (List.mem_of_getElem? (i := 3) rfl)) rfl
theorem nq_596 : Cond.static yX3_grow ∈ wsG := mg (mt_3 _ (List.mem_of_getElem? (i := 4) rfl)) rfl
theorem nq_597 : Cond.code yX3_grow cX3_grow 9 none ∈ wsG := mg (mt_3 _ (List.mem_of_getElem? (i := 5) rfl)) rfl
theorem nq_598 : Cond.methodLink RX3 65 yX3_links ∈ wsG := mg (mt_3 _ (List.mem_of_getElem? (i := 6) rfl)) rfl
theorem nq_599 : Cond.instanceMethod yX3_links ∈ wsG := mg (mt_3 _ (List.mem_of_getElem? (i := 8) rfl)) rfl
theorem nq_600 : Cond.selects RX3 yX3_links yX3_links ∈ wsG := mg (mp_1 (_, 7) (List.mem_of_getElem? (i := 6) rfl)) rfl
theorem nq_601 : Cond.code yX3_links cX3_links 6 (some .boolean) ∈ wsG := mg (mt_3 _ (List.mem_of_getElem? (i := 9) rfl)) rfl
theorem nq_602 : Cond.methodLink RX3 73 yX4_signAt ∈ wsG := mg (mt_3 _ (List.mem_of_getElem? (i := 10) rfl)) rfl
theorem nq_603 : Cond.methodLink RX3 69 yX3_tallyRing ∈ wsG := mg (mt_3 _ (List.mem_of_getElem? (i := 11) rfl)) rfl
theorem nq_604 : Cond.instanceMethod yX3_tallyRing ∈ wsG := mg (mt_3 _ (List.mem_of_getElem? (i := 13) rfl)) rfl
theorem nq_605 : Cond.selects RX3 yX3_tallyRing yX3_tallyRing ∈ wsG := mg (mp_1 (_, 7) (List.mem_of_getElem? (i := 7) rfl)) rfl
theorem nq_606 : Cond.code yX3_tallyRing cX3_tallyRing 10 none ∈ wsG := mg (mt_3 _ (List.mem_of_getElem? (i := 14) rfl)) rfl
theorem nq_607 : Cond.methodLink RX3 86 Lib.Math.min.name ∈ wsG := mg (mt_3 _ (List.mem_of_getElem? (i := 16) rfl)) rfl
theorem nq_608 : Cond.static Lib.Math.min.name ∈ wsG := mg (mt_3 _ (List.mem_of_getElem? (i := 17) rfl)) rfl
theorem nq_609 : Cond.initialized "java/lang/Math" ∈ wsG := mg (mt_1 _ (List.mem_of_getElem? (i := 12) rfl)) rfl
theorem nq_610 : Cond.code Lib.Math.min.name Lib.Math.min.code 2 (some .int) ∈ wsG := mg (mt_3 _ (List.mem_of_getElem? (i := 18) rfl)) rfl
theorem nq_611 : Cond.methodLink RX3 82 yX4_isAhead ∈ wsG := mg (mt_3 _ (List.mem_of_getElem? (i := 15) rfl)) rfl
theorem nq_612 : Cond.methodLink RL 68 yX9_rings ∈ wsG := mg (mt_5 _ (List.mem_of_getElem? (i := 0) rfl)) rfl
theorem nq_613 : Cond.instanceMethod yX9_rings ∈ wsG := mg (mt_5 _ (List.mem_of_getElem? (i := 1) rfl)) rfl
theorem nq_614 : Cond.selects RX9 yX9_rings yX9_rings ∈ wsG := mg (mt_5 _ (List.mem_of_getElem? (i := 2) rfl)) rfl
theorem nq_615 : Cond.code yX9_rings cX9_rings 3 (some .int) ∈ wsG := mg (mt_5 _ (List.mem_of_getElem? (i := 3) rfl)) rfl
theorem nq_616 : Cond.constantLong RX9 281 (2) ∈ wsG := mg (mt_5 _ (List.mem_of_getElem? (i := 4) rfl)) rfl
theorem nq_617 : Cond.methodLink RX9 283 yX9_findRings ∈ wsG := mg (mt_5 _ (List.mem_of_getElem? (i := 5) rfl)) rfl
theorem nq_618 : Cond.instanceMethod yX9_findRings ∈ wsG := mg (mt_5 _ (List.mem_of_getElem? (i := 7) rfl)) rfl
theorem nq_619 : Cond.selects RX9 yX9_findRings yX9_findRings ∈ wsG := mg (mp_3 (_, 39) (List.mem_of_getElem? (i := 13) rfl)) rfl
theorem nq_620 : Cond.code yX9_findRings cX9_findRings 4 none ∈ wsG := mg (mt_5 _ (List.mem_of_getElem? (i := 8) rfl)) rfl
theorem nq_621 : Cond.fieldLink RX9 249 "LockWatchModel" "level1" "I" ∈ wsG := mg (mt_3 _ (List.mem_of_getElem? (i := 192) rfl)) rfl
theorem nq_622 : Cond.constantLong RX9 261 (-9) ∈ wsG := mg (mt_5 _ (List.mem_of_getElem? (i := 9) rfl)) rfl
theorem nq_623 : Cond.fieldLink RX9 257 "LockWatchModel" "firstRow" "J" ∈ wsG := mg (mt_3 _ (List.mem_of_getElem? (i := 198) rfl)) rfl
theorem nq_624 : Cond.methodLink RX9 272 yX9_goesOn ∈ wsG := mg (mt_5 _ (List.mem_of_getElem? (i := 10) rfl)) rfl
theorem nq_625 : Cond.instanceMethod yX9_goesOn ∈ wsG := mg (mt_5 _ (List.mem_of_getElem? (i := 12) rfl)) rfl
theorem nq_626 : Cond.selects RX9 yX9_goesOn yX9_goesOn ∈ wsG := mg (mp_3 (_, 39) (List.mem_of_getElem? (i := 14) rfl)) rfl
theorem nq_627 : Cond.code yX9_goesOn cX9_goesOn 3 (some .boolean) ∈ wsG := mg (mt_5 _ (List.mem_of_getElem? (i := 13) rfl)) rfl
theorem nq_628 : Cond.methodLink RX9 263 yX9_follows ∈ wsG := mg (mt_5 _ (List.mem_of_getElem? (i := 14) rfl)) rfl
theorem nq_629 : Cond.instanceMethod yX9_follows ∈ wsG := mg (mt_5 _ (List.mem_of_getElem? (i := 16) rfl)) rfl
theorem nq_630 : Cond.selects RX9 yX9_follows yX9_follows ∈ wsG := mg (mp_3 (_, 39) (List.mem_of_getElem? (i := 15) rfl)) rfl
theorem nq_631 : Cond.code yX9_follows cX9_follows 4 (some .boolean) ∈ wsG := mg (mt_5 _ (List.mem_of_getElem? (i := 17) rfl)) rfl
theorem nq_632 : Cond.methodLink RX9 269 yX9_isUnlike ∈ wsG := mg (mt_5 _ (List.mem_of_getElem? (i := 18) rfl)) rfl
theorem nq_633 : Cond.instanceMethod yX9_isUnlike ∈ wsG := mg (mt_5 _ (List.mem_of_getElem? (i := 20) rfl)) rfl
theorem nq_634 : Cond.selects RX9 yX9_isUnlike yX9_isUnlike ∈ wsG := mg (mp_4 (_, 39) (List.mem_of_getElem? (i := 0) rfl)) rfl
theorem nq_635 : Cond.code yX9_isUnlike cX9_isUnlike 5 (some .boolean) ∈ wsG := mg (mt_5 _ (List.mem_of_getElem? (i := 21) rfl)) rfl
theorem nq_636 : Cond.methodLink RX9 275 yX9_close ∈ wsG := mg (mt_5 _ (List.mem_of_getElem? (i := 22) rfl)) rfl
theorem nq_637 : Cond.instanceMethod yX9_close ∈ wsG := mg (mt_5 _ (List.mem_of_getElem? (i := 24) rfl)) rfl
theorem nq_638 : Cond.selects RX9 yX9_close yX9_close ∈ wsG := mg (mp_4 (_, 39) (List.mem_of_getElem? (i := 1) rfl)) rfl
theorem nq_639 : Cond.code yX9_close cX9_close 2 none ∈ wsG := mg (mt_5 _ (List.mem_of_getElem? (i := 25) rfl)) rfl
theorem nq_640 : Cond.methodLink RX9 266 yX9_takeRing ∈ wsG := mg (mt_5 _ (List.mem_of_getElem? (i := 26) rfl)) rfl
theorem nq_641 : Cond.instanceMethod yX9_takeRing ∈ wsG := mg (mt_5 _ (List.mem_of_getElem? (i := 28) rfl)) rfl
theorem nq_642 : Cond.selects RX9 yX9_takeRing yX9_takeRing ∈ wsG := mg (mp_4 (_, 39) (List.mem_of_getElem? (i := 2) rfl)) rfl
theorem nq_643 : Cond.code yX9_takeRing cX9_takeRing 8 none ∈ wsG := mg (mt_5 _ (List.mem_of_getElem? (i := 29) rfl)) rfl
theorem nq_644 : Cond.constantLong RX9 255 (100) ∈ wsG := mg (mt_5 _ (List.mem_of_getElem? (i := 34) rfl)) rfl
theorem nq_645 : Cond.methodLink RX9 252 yX9_areGated ∈ wsG := mg (mt_5 _ (List.mem_of_getElem? (i := 30) rfl)) rfl
theorem nq_646 : Cond.instanceMethod yX9_areGated ∈ wsG := mg (mt_5 _ (List.mem_of_getElem? (i := 32) rfl)) rfl
theorem nq_647 : Cond.selects RX9 yX9_areGated yX9_areGated ∈ wsG := mg (mp_4 (_, 39) (List.mem_of_getElem? (i := 3) rfl)) rfl
theorem nq_648 : Cond.code yX9_areGated cX9_areGated 4 (some .boolean) ∈ wsG := mg (mt_5 _ (List.mem_of_getElem? (i := 33) rfl)) rfl
theorem nq_649 : Cond.methodLink RX9 278 yX9_findLonger ∈ wsG := mg (mt_5 _ (List.mem_of_getElem? (i := 35) rfl)) rfl
theorem nq_650 : Cond.instanceMethod yX9_findLonger ∈ wsG := mg (mt_5 _ (List.mem_of_getElem? (i := 37) rfl)) rfl
theorem nq_651 : Cond.selects RX9 yX9_findLonger yX9_findLonger ∈ wsG := mg (mp_4 (_, 39) (List.mem_of_getElem? (i := 4) rfl)) rfl
theorem nq_652 : Cond.code yX9_findLonger cX9_findLonger 3 none ∈ wsG := mg (mt_5 _ (List.mem_of_getElem? (i := 38) rfl)) rfl
theorem nq_653 : Cond.methodLink RL 69 yX8_first ∈ wsG := mg (mt_3 _ (List.mem_of_getElem? (i := 19) rfl)) rfl
theorem nq_654 : Cond.instanceMethod yX8_first ∈ wsG := mg (mt_3 _ (List.mem_of_getElem? (i := 20) rfl)) rfl
theorem nq_655 : Cond.selects RX8 yX8_first yX8_first ∈ wsG := mg (mt_3 _ (List.mem_of_getElem? (i := 21) rfl)) rfl
theorem nq_656 : Cond.code yX8_first cX8_first 1 (some .int) ∈ wsG := mg (mt_3 _ (List.mem_of_getElem? (i := 22) rfl)) rfl
theorem nq_657 : Cond.methodLink RL 72 yX9_first ∈ wsG := mg (mt_5 _ (List.mem_of_getElem? (i := 39) rfl)) rfl
theorem nq_658 : Cond.instanceMethod yX9_first ∈ wsG := mg (mt_5 _ (List.mem_of_getElem? (i := 40) rfl)) rfl
theorem nq_659 : Cond.selects RX9 yX9_first yX9_first ∈ wsG := mg (mt_5 _ (List.mem_of_getElem? (i := 41) rfl)) rfl
theorem nq_660 : Cond.code yX9_first cX9_first 1 (some .int) ∈ wsG := mg (mt_5 _ (List.mem_of_getElem? (i := 42) rfl)) rfl
theorem nq_661 : Cond.methodLink RL 75 yX8_judge ∈ wsG := mg (mt_3 _ (List.mem_of_getElem? (i := 23) rfl)) rfl
theorem nq_662 : Cond.instanceMethod yX8_judge ∈ wsG := mg (mt_3 _ (List.mem_of_getElem? (i := 24) rfl)) rfl
theorem nq_663 : Cond.selects RX8 yX8_judge yX8_judge ∈ wsG := mg (mt_3 _ (List.mem_of_getElem? (i := 25) rfl)) rfl
theorem nq_664 : Cond.code yX8_judge cX8_judge 6 (some .int) ∈ wsG := mg (mt_3 _ (List.mem_of_getElem? (i := 26) rfl)) rfl
theorem nq_665 : Cond.fieldLink RX8 178 "LockWatch" "DOINGS" "[J" ∈ wsG := mg (mt_3 _ (List.mem_of_getElem? (i := 27) rfl)) rfl
theorem nq_666 : Cond.methodLink RX8 182 yX8_canBe ∈ wsG := mg (mt_3 _ (List.mem_of_getElem? (i := 29) rfl)) rfl
theorem nq_667 : Cond.instanceMethod yX8_canBe ∈ wsG := mg (mt_3 _ (List.mem_of_getElem? (i := 31) rfl)) rfl
theorem nq_668 : Cond.selects RX8 yX8_canBe yX8_canBe ∈ wsG := mg (mp_1 (_, 10) (List.mem_of_getElem? (i := 8) rfl)) rfl
theorem nq_669 : Cond.code yX8_canBe cX8_canBe 4 (some .boolean) ∈ wsG := mg (mt_3 _ (List.mem_of_getElem? (i := 32) rfl)) rfl
theorem nq_670 : Cond.methodLink RX8 263 yX8_isCellSo ∈ wsG := mg (mt_3 _ (List.mem_of_getElem? (i := 33) rfl)) rfl
theorem nq_671 : Cond.instanceMethod yX8_isCellSo ∈ wsG := mg (mt_3 _ (List.mem_of_getElem? (i := 35) rfl)) rfl
theorem nq_672 : Cond.selects RX8 yX8_isCellSo yX8_isCellSo ∈ wsG := mg (mp_1 (_, 10) (List.mem_of_getElem? (i := 9) rfl)) rfl
theorem nq_673 : Cond.code yX8_isCellSo cX8_isCellSo 7 (some .boolean) ∈ wsG := mg (mt_3 _ (List.mem_of_getElem? (i := 36) rfl)) rfl
theorem nq_674 : Cond.methodLink RX8 267 yX8_areFeasible ∈ wsG := mg (mt_3 _ (List.mem_of_getElem? (i := 37) rfl)) rfl
theorem nq_675 : Cond.instanceMethod yX8_areFeasible ∈ wsG := mg (mt_3 _ (List.mem_of_getElem? (i := 39) rfl)) rfl
theorem nq_676 : Cond.selects RX8 yX8_areFeasible yX8_areFeasible ∈ wsG := mg (mp_1 (_, 10) (List.mem_of_getElem? (i := 10) rfl)) rfl
theorem nq_677 : Cond.code yX8_areFeasible cX8_areFeasible 2 (some .boolean) ∈ wsG := mg (mt_3 _ (List.mem_of_getElem? (i := 40) rfl)) rfl
theorem nq_678 : Cond.methodLink RX8 260 yX3_feasible ∈ wsG := mg (mt_3 _ (List.mem_of_getElem? (i := 41) rfl)) rfl
theorem nq_679 : Cond.instanceMethod yX3_feasible ∈ wsG := mg (mt_3 _ (List.mem_of_getElem? (i := 42) rfl)) rfl
theorem nq_680 : Cond.selects RX3 yX3_feasible yX3_feasible ∈ wsG := mg (mt_3 _ (List.mem_of_getElem? (i := 43) rfl)) rfl
theorem nq_681 : Cond.code yX3_feasible cX3_feasible 3 (some .int) ∈ wsG := mg (mt_3 _ (List.mem_of_getElem? (i := 44) rfl)) rfl
theorem nq_682 : Cond.methodLink RX8 270 yX4_heldAt ∈ wsG := mg (mt_3 _ (List.mem_of_getElem? (i := 45) rfl)) rfl
theorem nq_683 : Cond.methodLink RL 79 yX9_judge ∈ wsG := mg (mt_5 _ (List.mem_of_getElem? (i := 43) rfl)) rfl
theorem nq_684 : Cond.instanceMethod yX9_judge ∈ wsG := mg (mt_5 _ (List.mem_of_getElem? (i := 44) rfl)) rfl
theorem nq_685 : Cond.selects RX9 yX9_judge yX9_judge ∈ wsG := mg (mt_5 _ (List.mem_of_getElem? (i := 45) rfl)) rfl
theorem nq_686 : Cond.code yX9_judge cX9_judge 6 (some .int) ∈ wsG := mg (mt_5 _ (List.mem_of_getElem? (i := 46) rfl)) rfl
theorem nq_687 : Cond.constantLong RX9 295 (10000) ∈ wsG := mg (mt_5 _ (List.mem_of_getElem? (i := 50) rfl)) rfl
theorem nq_688 : Cond.methodLink RX9 297 yX9_tenThousandTo ∈ wsG := mg (mt_5 _ (List.mem_of_getElem? (i := 47) rfl)) rfl
theorem nq_689 : Cond.static yX9_tenThousandTo ∈ wsG := mg (mt_5 _ (List.mem_of_getElem? (i := 48) rfl)) rfl
theorem nq_690 : Cond.code yX9_tenThousandTo cX9_tenThousandTo 4 (some .long) ∈ wsG := mg (mt_5 _ (List.mem_of_getElem? (i := 49) rfl)) rfl
theorem nq_691 : Cond.methodLink RX9 301 yX9_tryThing ∈ wsG := mg (mt_5 _ (List.mem_of_getElem? (i := 51) rfl)) rfl
theorem nq_692 : Cond.instanceMethod yX9_tryThing ∈ wsG := mg (mt_5 _ (List.mem_of_getElem? (i := 53) rfl)) rfl
theorem nq_693 : Cond.selects RX9 yX9_tryThing yX9_tryThing ∈ wsG := mg (mp_4 (_, 39) (List.mem_of_getElem? (i := 5) rfl)) rfl
theorem nq_694 : Cond.code yX9_tryThing cX9_tryThing 8 (some .boolean) ∈ wsG := mg (mt_5 _ (List.mem_of_getElem? (i := 54) rfl)) rfl
theorem nq_695 : Cond.methodLink RX9 292 yX9_isSo ∈ wsG := mg (mt_5 _ (List.mem_of_getElem? (i := 55) rfl)) rfl
theorem nq_696 : Cond.instanceMethod yX9_isSo ∈ wsG := mg (mt_5 _ (List.mem_of_getElem? (i := 57) rfl)) rfl
theorem nq_697 : Cond.selects RX9 yX9_isSo yX9_isSo ∈ wsG := mg (mp_4 (_, 39) (List.mem_of_getElem? (i := 6) rfl)) rfl
theorem nq_698 : Cond.code yX9_isSo cX9_isSo 4 (some .boolean) ∈ wsG := mg (mt_5 _ (List.mem_of_getElem? (i := 58) rfl)) rfl
theorem nq_699 : Cond.methodLink RX9 286 yX9_flaggedOn ∈ wsG := mg (mt_5 _ (List.mem_of_getElem? (i := 59) rfl)) rfl
theorem nq_700 : Cond.instanceMethod yX9_flaggedOn ∈ wsG := mg (mt_5 _ (List.mem_of_getElem? (i := 61) rfl)) rfl
theorem nq_701 : Cond.selects RX9 yX9_flaggedOn yX9_flaggedOn ∈ wsG := mg (mp_4 (_, 39) (List.mem_of_getElem? (i := 7) rfl)) rfl
theorem nq_702 : Cond.code yX9_flaggedOn cX9_flaggedOn 5 (some .int) ∈ wsG := mg (mt_5 _ (List.mem_of_getElem? (i := 62) rfl)) rfl
theorem nq_703 : Cond.methodLink RX9 289 yX9_feasibleOn ∈ wsG := mg (mt_5 _ (List.mem_of_getElem? (i := 63) rfl)) rfl
theorem nq_704 : Cond.instanceMethod yX9_feasibleOn ∈ wsG := mg (mt_5 _ (List.mem_of_getElem? (i := 65) rfl)) rfl
theorem nq_705 : Cond.selects RX9 yX9_feasibleOn yX9_feasibleOn ∈ wsG := mg (mp_4 (_, 39) (List.mem_of_getElem? (i := 8) rfl)) rfl
theorem nq_706 : Cond.code yX9_feasibleOn cX9_feasibleOn 2 (some .int) ∈ wsG := mg (mt_5 _ (List.mem_of_getElem? (i := 66) rfl)) rfl
theorem nq_707 : Cond.methodLink RL 80 yX8_see ∈ wsG := mg (mt_3 _ (List.mem_of_getElem? (i := 46) rfl)) rfl
theorem nq_708 : Cond.instanceMethod yX8_see ∈ wsG := mg (mt_3 _ (List.mem_of_getElem? (i := 47) rfl)) rfl
theorem nq_709 : Cond.selects RX8 yX8_see yX8_see ∈ wsG := mg (mt_3 _ (List.mem_of_getElem? (i := 48) rfl)) rfl
theorem nq_710 : Cond.code yX8_see cX8_see 4 (some .int) ∈ wsG := mg (mt_3 _ (List.mem_of_getElem? (i := 49) rfl)) rfl
theorem nq_711 : Cond.methodLink RX8 185 yX5_put ∈ wsG := mg (mt_3 _ (List.mem_of_getElem? (i := 50) rfl)) rfl
theorem nq_712 : Cond.instanceMethod yX5_put ∈ wsG := mg (mt_3 _ (List.mem_of_getElem? (i := 51) rfl)) rfl
theorem nq_713 : Cond.selects RX5 yX5_put yX5_put ∈ wsG := mg (mt_3 _ (List.mem_of_getElem? (i := 52) rfl)) rfl
theorem nq_714 : Cond.code yX5_put cX5_put 4 (some .boolean) ∈ wsG := mg (mt_3 _ (List.mem_of_getElem? (i := 53) rfl)) rfl
theorem nq_715 : Cond.fieldLink RX5 22 "LockWatch$Seen" "size" "I" ∈ wsG := mg (mt_1 _ (List.mem_of_getElem? (i := 147) rfl)) rfl
theorem nq_716 : Cond.methodLink RL 83 yX9_see ∈ wsG := mg (mt_5 _ (List.mem_of_getElem? (i := 67) rfl)) rfl
theorem nq_717 : Cond.instanceMethod yX9_see ∈ wsG := mg (mt_5 _ (List.mem_of_getElem? (i := 68) rfl)) rfl
theorem nq_718 : Cond.selects RX9 yX9_see yX9_see ∈ wsG := mg (mt_5 _ (List.mem_of_getElem? (i := 69) rfl)) rfl
theorem nq_719 : Cond.code yX9_see cX9_see 4 (some .int) ∈ wsG := mg (mt_5 _ (List.mem_of_getElem? (i := 70) rfl)) rfl
theorem nq_720 : Cond.fieldLink RX9 304 "LockWatchModel" "seen" "I" ∈ wsG := mg (mt_3 _ (List.mem_of_getElem? (i := 200) rfl)) rfl
theorem nq_721 : Cond.methodLink RL 84 yX8_unsee ∈ wsG := mg (mt_3 _ (List.mem_of_getElem? (i := 54) rfl)) rfl
theorem nq_722 : Cond.instanceMethod yX8_unsee ∈ wsG := mg (mt_3 _ (List.mem_of_getElem? (i := 55) rfl)) rfl
theorem nq_723 : Cond.selects RX8 yX8_unsee yX8_unsee ∈ wsG := mg (mt_3 _ (List.mem_of_getElem? (i := 56) rfl)) rfl
theorem nq_724 : Cond.code yX8_unsee cX8_unsee 2 (some .int) ∈ wsG := mg (mt_3 _ (List.mem_of_getElem? (i := 57) rfl)) rfl
theorem nq_725 : Cond.methodLink RL 87 yX9_unsee ∈ wsG := mg (mt_5 _ (List.mem_of_getElem? (i := 71) rfl)) rfl
theorem nq_726 : Cond.instanceMethod yX9_unsee ∈ wsG := mg (mt_5 _ (List.mem_of_getElem? (i := 72) rfl)) rfl
theorem nq_727 : Cond.selects RX9 yX9_unsee yX9_unsee ∈ wsG := mg (mt_5 _ (List.mem_of_getElem? (i := 73) rfl)) rfl
theorem nq_728 : Cond.code yX9_unsee cX9_unsee 2 (some .int) ∈ wsG := mg (mt_5 _ (List.mem_of_getElem? (i := 74) rfl)) rfl
theorem nq_729 : Cond.methodLink RL 88 yX8_which ∈ wsG := mg (mt_3 _ (List.mem_of_getElem? (i := 58) rfl)) rfl
theorem nq_730 : Cond.instanceMethod yX8_which ∈ wsG := mg (mt_3 _ (List.mem_of_getElem? (i := 59) rfl)) rfl
theorem nq_731 : Cond.selects RX8 yX8_which yX8_which ∈ wsG := mg (mt_3 _ (List.mem_of_getElem? (i := 60) rfl)) rfl
theorem nq_732 : Cond.code yX8_which cX8_which 2 (some .int) ∈ wsG := mg (mt_3 _ (List.mem_of_getElem? (i := 61) rfl)) rfl
theorem nq_733 : Cond.methodLink RX8 189 yX5_fittingCount ∈ wsG := mg (mt_3 _ (List.mem_of_getElem? (i := 62) rfl)) rfl
theorem nq_734 : Cond.instanceMethod yX5_fittingCount ∈ wsG := mg (mt_3 _ (List.mem_of_getElem? (i := 63) rfl)) rfl
theorem nq_735 : Cond.selects RX5 yX5_fittingCount yX5_fittingCount ∈ wsG := mg (mt_3 _ (List.mem_of_getElem? (i := 64) rfl)) rfl
theorem nq_736 : Cond.code yX5_fittingCount cX5_fittingCount 4 (some .int) ∈ wsG := mg (mt_3 _ (List.mem_of_getElem? (i := 65) rfl)) rfl
theorem nq_737 : Cond.methodLink RX5 43 yX5_fits ∈ wsG := mg (mt_3 _ (List.mem_of_getElem? (i := 66) rfl)) rfl
theorem nq_738 : Cond.instanceMethod yX5_fits ∈ wsG := mg (mt_3 _ (List.mem_of_getElem? (i := 68) rfl)) rfl
theorem nq_739 : Cond.selects RX5 yX5_fits yX5_fits ∈ wsG := mg (mp_1 (_, 4) (List.mem_of_getElem? (i := 11) rfl)) rfl
theorem nq_740 : Cond.code yX5_fits cX5_fits 5 (some .boolean) ∈ wsG := mg (mt_3 _ (List.mem_of_getElem? (i := 69) rfl)) rfl
theorem nq_741 : Cond.methodLink RX5 26 yX4_isTouch ∈ wsG := mg (mt_3 _ (List.mem_of_getElem? (i := 70) rfl)) rfl
theorem nq_742 : Cond.methodLink RX5 33 yX1_watch ∈ wsG := mg (mt_3 _ (List.mem_of_getElem? (i := 71) rfl)) rfl
theorem nq_743 : Cond.methodLink RX5 39 yX1_stateOf ∈ wsG := mg (mt_3 _ (List.mem_of_getElem? (i := 72) rfl)) rfl
theorem nq_744 : Cond.methodLink RX8 192 yX5_leastFitting ∈ wsG := mg (mt_3 _ (List.mem_of_getElem? (i := 73) rfl)) rfl
theorem nq_745 : Cond.instanceMethod yX5_leastFitting ∈ wsG := mg (mt_3 _ (List.mem_of_getElem? (i := 74) rfl)) rfl
theorem nq_746 : Cond.selects RX5 yX5_leastFitting yX5_leastFitting ∈ wsG := mg (mt_3 _ (List.mem_of_getElem? (i := 75) rfl)) rfl
theorem nq_747 : Cond.code yX5_leastFitting cX5_leastFitting 3 (some .int) ∈ wsG := mg (mt_3 _ (List.mem_of_getElem? (i := 76) rfl)) rfl
theorem nq_748 : Cond.methodLink RL 91 yX9_which ∈ wsG := mg (mt_5 _ (List.mem_of_getElem? (i := 75) rfl)) rfl
theorem nq_749 : Cond.instanceMethod yX9_which ∈ wsG := mg (mt_5 _ (List.mem_of_getElem? (i := 76) rfl)) rfl
theorem nq_750 : Cond.selects RX9 yX9_which yX9_which ∈ wsG := mg (mt_5 _ (List.mem_of_getElem? (i := 77) rfl)) rfl
theorem nq_751 : Cond.code yX9_which cX9_which 7 (some .int) ∈ wsG := mg (mt_5 _ (List.mem_of_getElem? (i := 78) rfl)) rfl
theorem nq_752 : Cond.methodLink RL 92 yX8_share ∈ wsG := mg (mt_3 _ (List.mem_of_getElem? (i := 77) rfl)) rfl
theorem nq_753 : Cond.instanceMethod yX8_share ∈ wsG := mg (mt_3 _ (List.mem_of_getElem? (i := 78) rfl)) rfl
theorem nq_754 : Cond.selects RX8 yX8_share yX8_share ∈ wsG := mg (mt_3 _ (List.mem_of_getElem? (i := 79) rfl)) rfl
theorem nq_755 : Cond.code yX8_share cX8_share 7 (some .int) ∈ wsG := mg (mt_3 _ (List.mem_of_getElem? (i := 80) rfl)) rfl
theorem nq_756 : Cond.fieldLink RX8 198 "LockWatch" "ORDERS" "[I" ∈ wsG := mg (mt_3 _ (List.mem_of_getElem? (i := 94) rfl)) rfl
theorem nq_757 : Cond.constantLong RX8 206 (24) ∈ wsG := mg (mt_3 _ (List.mem_of_getElem? (i := 97) rfl)) rfl
theorem nq_758 : Cond.methodLink RX8 195 yX1_flaggedCount ∈ wsG := mg (mt_3 _ (List.mem_of_getElem? (i := 81) rfl)) rfl
theorem nq_759 : Cond.static yX1_flaggedCount ∈ wsG := mg (mt_3 _ (List.mem_of_getElem? (i := 82) rfl)) rfl
theorem nq_760 : Cond.code yX1_flaggedCount cX1_flaggedCount 2 (some .int) ∈ wsG := mg (mt_3 _ (List.mem_of_getElem? (i := 83) rfl)) rfl
theorem nq_761 : Cond.methodLink RX1 44 yX1_flaggedBits ∈ wsG := mg (mt_3 _ (List.mem_of_getElem? (i := 84) rfl)) rfl
theorem nq_762 : Cond.static yX1_flaggedBits ∈ wsG := mg (mt_3 _ (List.mem_of_getElem? (i := 85) rfl)) rfl
theorem nq_763 : Cond.code yX1_flaggedBits cX1_flaggedBits 4 (some .int) ∈ wsG := mg (mt_3 _ (List.mem_of_getElem? (i := 86) rfl)) rfl
theorem nq_764 : Cond.methodLink RX1 40 yX1_watch ∈ wsG := mg (mt_3 _ (List.mem_of_getElem? (i := 87) rfl)) rfl
theorem nq_765 : Cond.methodLink RX1 48 yJ6_bitCount_0f7a4 ∈ wsG := mg (mt_3 _ (List.mem_of_getElem? (i := 88) rfl)) rfl
theorem nq_766 : Cond.static yJ6_bitCount_0f7a4 ∈ wsG := mg (mt_3 _ (List.mem_of_getElem? (i := 89) rfl)) rfl
theorem nq_767 : Cond.initialized RJ6 ∈ wsG := mg (mt_1 _ (List.mem_of_getElem? (i := 13) rfl)) rfl
theorem nq_768 : Cond.code yJ6_bitCount_0f7a4 cJ6_bitCount_0f7a4 1 (some .int) ∈ wsG := mg (mt_3 _ (List.mem_of_getElem? (i := 90) rfl)) rfl
theorem nq_769 : Cond.constant RJ6 265 (1431655765) ∈ wsG := mg (mt_3 _ (List.mem_of_getElem? (i := 91) rfl)) rfl
theorem nq_770 : Cond.constant RJ6 266 (858993459) ∈ wsG := mg (mt_3 _ (List.mem_of_getElem? (i := 92) rfl)) rfl
theorem nq_771 : Cond.constant RJ6 267 (252645135) ∈ wsG := mg (mt_3 _ (List.mem_of_getElem? (i := 93) rfl)) rfl
theorem nq_772 : Cond.methodLink RX8 201 yJ6_bitCount_0f7a4 ∈ wsG := mg (mt_3 _ (List.mem_of_getElem? (i := 96) rfl)) rfl
theorem nq_773 : Cond.methodLink RX8 208 yX8_fraction ∈ wsG := mg (mt_3 _ (List.mem_of_getElem? (i := 98) rfl)) rfl
theorem nq_774 : Cond.static yX8_fraction ∈ wsG := mg (mt_3 _ (List.mem_of_getElem? (i := 99) rfl)) rfl
theorem nq_775 : Cond.code yX8_fraction cX8_fraction 12 (some .int) ∈ wsG := mg (mt_3 _ (List.mem_of_getElem? (i := 100) rfl)) rfl
theorem nq_776 : Cond.methodLink RL 96 yX9_share ∈ wsG := mg (mt_5 _ (List.mem_of_getElem? (i := 79) rfl)) rfl
theorem nq_777 : Cond.instanceMethod yX9_share ∈ wsG := mg (mt_5 _ (List.mem_of_getElem? (i := 80) rfl)) rfl
theorem nq_778 : Cond.selects RX9 yX9_share yX9_share ∈ wsG := mg (mt_5 _ (List.mem_of_getElem? (i := 81) rfl)) rfl
theorem nq_779 : Cond.code yX9_share cX9_share 6 (some .int) ∈ wsG := mg (mt_5 _ (List.mem_of_getElem? (i := 82) rfl)) rfl
theorem nq_780 : Cond.methodLink RX9 307 yX9_ones ∈ wsG := mg (mt_5 _ (List.mem_of_getElem? (i := 83) rfl)) rfl
theorem nq_781 : Cond.static yX9_ones ∈ wsG := mg (mt_5 _ (List.mem_of_getElem? (i := 84) rfl)) rfl
theorem nq_782 : Cond.code yX9_ones cX9_ones 3 (some .int) ∈ wsG := mg (mt_5 _ (List.mem_of_getElem? (i := 85) rfl)) rfl
theorem nq_783 : Cond.methodLink RX9 310 yX9_factorial ∈ wsG := mg (mt_5 _ (List.mem_of_getElem? (i := 86) rfl)) rfl
theorem nq_784 : Cond.static yX9_factorial ∈ wsG := mg (mt_5 _ (List.mem_of_getElem? (i := 87) rfl)) rfl
theorem nq_785 : Cond.code yX9_factorial cX9_factorial 3 (some .int) ∈ wsG := mg (mt_5 _ (List.mem_of_getElem? (i := 88) rfl)) rfl
theorem nq_786 : Cond.methodLink RX9 313 yX9_common ∈ wsG := mg (mt_5 _ (List.mem_of_getElem? (i := 89) rfl)) rfl
theorem nq_787 : Cond.static yX9_common ∈ wsG := mg (mt_5 _ (List.mem_of_getElem? (i := 90) rfl)) rfl
theorem nq_788 : Cond.code yX9_common cX9_common 5 (some .int) ∈ wsG := mg (mt_5 _ (List.mem_of_getElem? (i := 91) rfl)) rfl
theorem nq_789 : Cond.methodLink RL 97 yX8_lost ∈ wsG := mg (mt_3 _ (List.mem_of_getElem? (i := 101) rfl)) rfl
theorem nq_790 : Cond.instanceMethod yX8_lost ∈ wsG := mg (mt_3 _ (List.mem_of_getElem? (i := 102) rfl)) rfl
theorem nq_791 : Cond.selects RX8 yX8_lost yX8_lost ∈ wsG := mg (mt_3 _ (List.mem_of_getElem? (i := 103) rfl)) rfl
theorem nq_792 : Cond.code yX8_lost cX8_lost 4 (some .int) ∈ wsG := mg (mt_3 _ (List.mem_of_getElem? (i := 104) rfl)) rfl
theorem nq_793 : Cond.methodLink RX8 212 yX2_spread ∈ wsG := mg (mt_3 _ (List.mem_of_getElem? (i := 105) rfl)) rfl
theorem nq_794 : Cond.instanceMethod yX2_spread ∈ wsG := mg (mt_3 _ (List.mem_of_getElem? (i := 106) rfl)) rfl
theorem nq_795 : Cond.selects RX2 yX2_spread yX2_spread ∈ wsG := mg (mt_3 _ (List.mem_of_getElem? (i := 107) rfl)) rfl
theorem nq_796 : Cond.code yX2_spread cX2_spread 5 none ∈ wsG := mg (mt_3 _ (List.mem_of_getElem? (i := 108) rfl)) rfl
theorem nq_797 : Cond.constantLong RX2 44 (10) ∈ wsG := mg (mt_3 _ (List.mem_of_getElem? (i := 121) rfl)) rfl
theorem nq_798 : Cond.methodLink RX2 24 yJ7_fill_d0a16 ∈ wsG := mg (mt_3 _ (List.mem_of_getElem? (i := 109) rfl)) rfl
theorem nq_799 : Cond.static yJ7_fill_d0a16 ∈ wsG := mg (mt_3 _ (List.mem_of_getElem? (i := 110) rfl)) rfl
theorem nq_800 : Cond.code yJ7_fill_d0a16 cJ7_fill_d0a16 5 none ∈ wsG := mg (mt_3 _ (List.mem_of_getElem? (i := 111) rfl)) rfl
theorem nq_801 : Cond.methodLink RX2 36 yX4_touchesAt ∈ wsG := mg (mt_3 _ (List.mem_of_getElem? (i := 112) rfl)) rfl
theorem nq_802 : Cond.methodLink RX2 40 yX2_spreadTouch ∈ wsG := mg (mt_3 _ (List.mem_of_getElem? (i := 113) rfl)) rfl
theorem nq_803 : Cond.instanceMethod yX2_spreadTouch ∈ wsG := mg (mt_3 _ (List.mem_of_getElem? (i := 115) rfl)) rfl
theorem nq_804 : Cond.selects RX2 yX2_spreadTouch yX2_spreadTouch ∈ wsG := mg (mp_1 (_, 3) (List.mem_of_getElem? (i := 12) rfl)) rfl
theorem nq_805 : Cond.code yX2_spreadTouch cX2_spreadTouch 6 none ∈ wsG := mg (mt_3 _ (List.mem_of_getElem? (i := 116) rfl)) rfl
theorem nq_806 : Cond.methodLink RX2 50 arraycopyName ∈ wsG := mg (mt_3 _ (List.mem_of_getElem? (i := 118) rfl)) rfl
theorem nq_807 : Cond.native arraycopyName ∈ wsG := mg (mt_3 _ (List.mem_of_getElem? (i := 120) rfl)) rfl
theorem nq_808 : Cond.static arraycopyName ∈ wsG := mg (mt_3 _ (List.mem_of_getElem? (i := 119) rfl)) rfl
theorem nq_809 : Cond.initialized "java/lang/System" ∈ wsG := mg (mt_1 _ (List.mem_of_getElem? (i := 14) rfl)) rfl
theorem nq_810 : Cond.methodLink RX2 46 yX1_touch ∈ wsG := mg (mt_3 _ (List.mem_of_getElem? (i := 117) rfl)) rfl
theorem nq_811 : Cond.methodLink RX8 216 yX2_ofFlagged ∈ wsG := mg (mt_3 _ (List.mem_of_getElem? (i := 122) rfl)) rfl
theorem nq_812 : Cond.instanceMethod yX2_ofFlagged ∈ wsG := mg (mt_3 _ (List.mem_of_getElem? (i := 123) rfl)) rfl
theorem nq_813 : Cond.selects RX2 yX2_ofFlagged yX2_ofFlagged ∈ wsG := mg (mt_3 _ (List.mem_of_getElem? (i := 124) rfl)) rfl
theorem nq_814 : Cond.code yX2_ofFlagged cX2_ofFlagged 1 (some .long) ∈ wsG := mg (mt_3 _ (List.mem_of_getElem? (i := 125) rfl)) rfl
theorem nq_815 : Cond.methodLink RL 101 yX9_lost ∈ wsG := mg (mt_5 _ (List.mem_of_getElem? (i := 92) rfl)) rfl
theorem nq_816 : Cond.instanceMethod yX9_lost ∈ wsG := mg (mt_5 _ (List.mem_of_getElem? (i := 93) rfl)) rfl
theorem nq_817 : Cond.selects RX9 yX9_lost yX9_lost ∈ wsG := mg (mt_5 _ (List.mem_of_getElem? (i := 94) rfl)) rfl
theorem nq_818 : Cond.code yX9_lost cX9_lost 11 (some .int) ∈ wsG := mg (mt_5 _ (List.mem_of_getElem? (i := 95) rfl)) rfl
theorem nq_819 : Cond.constantLong RX9 316 (10) ∈ wsG := mg (mt_5 _ (List.mem_of_getElem? (i := 96) rfl)) rfl
theorem nq_820 : Cond.methodLink RL 102 yX8_seed ∈ wsG := mg (mt_3 _ (List.mem_of_getElem? (i := 126) rfl)) rfl
theorem nq_821 : Cond.instanceMethod yX8_seed ∈ wsG := mg (mt_3 _ (List.mem_of_getElem? (i := 127) rfl)) rfl
theorem nq_822 : Cond.selects RX8 yX8_seed yX8_seed ∈ wsG := mg (mt_3 _ (List.mem_of_getElem? (i := 128) rfl)) rfl
theorem nq_823 : Cond.code yX8_seed cX8_seed 5 (some .long) ∈ wsG := mg (mt_3 _ (List.mem_of_getElem? (i := 129) rfl)) rfl
theorem nq_824 : Cond.methodLink RL 106 yX9_seed ∈ wsG := mg (mt_5 _ (List.mem_of_getElem? (i := 97) rfl)) rfl
theorem nq_825 : Cond.instanceMethod yX9_seed ∈ wsG := mg (mt_5 _ (List.mem_of_getElem? (i := 98) rfl)) rfl
theorem nq_826 : Cond.selects RX9 yX9_seed yX9_seed ∈ wsG := mg (mt_5 _ (List.mem_of_getElem? (i := 99) rfl)) rfl
theorem nq_827 : Cond.code yX9_seed cX9_seed 5 (some .long) ∈ wsG := mg (mt_5 _ (List.mem_of_getElem? (i := 100) rfl)) rfl
theorem nq_828 : Cond.fieldLink RX9 318 "LockWatchModel" "seed" "J" ∈ wsG := mg (mt_3 _ (List.mem_of_getElem? (i := 204) rfl)) rfl
theorem nq_829 : Cond.methodLink RL 107 yX8_drawn ∈ wsG := mg (mt_3 _ (List.mem_of_getElem? (i := 130) rfl)) rfl
theorem nq_830 : Cond.instanceMethod yX8_drawn ∈ wsG := mg (mt_3 _ (List.mem_of_getElem? (i := 131) rfl)) rfl
theorem nq_831 : Cond.selects RX8 yX8_drawn yX8_drawn ∈ wsG := mg (mt_3 _ (List.mem_of_getElem? (i := 132) rfl)) rfl
theorem nq_832 : Cond.code yX8_drawn cX8_drawn 6 (some .int) ∈ wsG := mg (mt_3 _ (List.mem_of_getElem? (i := 133) rfl)) rfl
theorem nq_833 : Cond.constantLong RX8 227 (6364136223846793005) ∈ wsG := mg (mt_3 _ (List.mem_of_getElem? (i := 138) rfl)) rfl
theorem nq_834 : Cond.constantLong RX8 229 (1442695040888963407) ∈ wsG := mg (mt_3 _ (List.mem_of_getElem? (i := 139) rfl)) rfl
theorem nq_835 : Cond.methodLink RX8 231 Lib.Math.max.name ∈ wsG := mg (mt_3 _ (List.mem_of_getElem? (i := 140) rfl)) rfl
theorem nq_836 : Cond.static Lib.Math.max.name ∈ wsG := mg (mt_3 _ (List.mem_of_getElem? (i := 141) rfl)) rfl
theorem nq_837 : Cond.code Lib.Math.max.name Lib.Math.max.code 2 (some .int) ∈ wsG := mg (mt_3 _ (List.mem_of_getElem? (i := 142) rfl)) rfl
theorem nq_838 : Cond.methodLink RX8 223 yX8_faultsOfTrial ∈ wsG := mg (mt_3 _ (List.mem_of_getElem? (i := 134) rfl)) rfl
theorem nq_839 : Cond.instanceMethod yX8_faultsOfTrial ∈ wsG := mg (mt_3 _ (List.mem_of_getElem? (i := 136) rfl)) rfl
theorem nq_840 : Cond.selects RX8 yX8_faultsOfTrial yX8_faultsOfTrial ∈ wsG := mg (mp_1 (_, 10) (List.mem_of_getElem? (i := 13) rfl)) rfl
theorem nq_841 : Cond.code yX8_faultsOfTrial cX8_faultsOfTrial 1 (some .int) ∈ wsG := mg (mt_3 _ (List.mem_of_getElem? (i := 137) rfl)) rfl
theorem nq_842 : Cond.methodLink RL 110 yX9_drawn ∈ wsG := mg (mt_5 _ (List.mem_of_getElem? (i := 101) rfl)) rfl
theorem nq_843 : Cond.instanceMethod yX9_drawn ∈ wsG := mg (mt_5 _ (List.mem_of_getElem? (i := 102) rfl)) rfl
theorem nq_844 : Cond.selects RX9 yX9_drawn yX9_drawn ∈ wsG := mg (mt_5 _ (List.mem_of_getElem? (i := 103) rfl)) rfl
theorem nq_845 : Cond.code yX9_drawn cX9_drawn 6 (some .int) ∈ wsG := mg (mt_5 _ (List.mem_of_getElem? (i := 104) rfl)) rfl
theorem nq_846 : Cond.constantLong RX9 321 (20) ∈ wsG := mg (mt_5 _ (List.mem_of_getElem? (i := 105) rfl)) rfl
theorem nq_847 : Cond.constantLong RX9 323 (6364136223846793005) ∈ wsG := mg (mt_5 _ (List.mem_of_getElem? (i := 106) rfl)) rfl
theorem nq_848 : Cond.constantLong RX9 325 (1442695040888963407) ∈ wsG := mg (mt_5 _ (List.mem_of_getElem? (i := 107) rfl)) rfl
theorem nq_849 : Cond.methodLink RL 111 yX8_keep ∈ wsG := mg (mt_3 _ (List.mem_of_getElem? (i := 143) rfl)) rfl
theorem nq_850 : Cond.instanceMethod yX8_keep ∈ wsG := mg (mt_3 _ (List.mem_of_getElem? (i := 144) rfl)) rfl
theorem nq_851 : Cond.selects RX8 yX8_keep yX8_keep ∈ wsG := mg (mt_3 _ (List.mem_of_getElem? (i := 145) rfl)) rfl
theorem nq_852 : Cond.code yX8_keep cX8_keep 2 (some .int) ∈ wsG := mg (mt_3 _ (List.mem_of_getElem? (i := 146) rfl)) rfl
theorem nq_853 : Cond.methodLink RL 114 yX9_keep ∈ wsG := mg (mt_5 _ (List.mem_of_getElem? (i := 108) rfl)) rfl
theorem nq_854 : Cond.instanceMethod yX9_keep ∈ wsG := mg (mt_5 _ (List.mem_of_getElem? (i := 109) rfl)) rfl
theorem nq_855 : Cond.selects RX9 yX9_keep yX9_keep ∈ wsG := mg (mt_5 _ (List.mem_of_getElem? (i := 110) rfl)) rfl
theorem nq_856 : Cond.code yX9_keep cX9_keep 3 (some .int) ∈ wsG := mg (mt_5 _ (List.mem_of_getElem? (i := 111) rfl)) rfl
theorem nq_857 : Cond.methodLink RL 115 yX8_again ∈ wsG := mg (mt_3 _ (List.mem_of_getElem? (i := 147) rfl)) rfl
theorem nq_858 : Cond.instanceMethod yX8_again ∈ wsG := mg (mt_3 _ (List.mem_of_getElem? (i := 148) rfl)) rfl
theorem nq_859 : Cond.selects RX8 yX8_again yX8_again ∈ wsG := mg (mt_3 _ (List.mem_of_getElem? (i := 149) rfl)) rfl
theorem nq_860 : Cond.code yX8_again cX8_again 2 (some .int) ∈ wsG := mg (mt_3 _ (List.mem_of_getElem? (i := 150) rfl)) rfl
theorem nq_861 : Cond.methodLink RL 118 yX9_again ∈ wsG := mg (mt_5 _ (List.mem_of_getElem? (i := 112) rfl)) rfl
theorem nq_862 : Cond.instanceMethod yX9_again ∈ wsG := mg (mt_5 _ (List.mem_of_getElem? (i := 113) rfl)) rfl
theorem nq_863 : Cond.selects RX9 yX9_again yX9_again ∈ wsG := mg (mt_5 _ (List.mem_of_getElem? (i := 114) rfl)) rfl
theorem nq_864 : Cond.code yX9_again cX9_again 3 (some .int) ∈ wsG := mg (mt_5 _ (List.mem_of_getElem? (i := 115) rfl)) rfl
theorem nq_865 : Cond.methodLink RL 119 yX8_count ∈ wsG := mg (mt_3 _ (List.mem_of_getElem? (i := 151) rfl)) rfl
theorem nq_866 : Cond.instanceMethod yX8_count ∈ wsG := mg (mt_3 _ (List.mem_of_getElem? (i := 152) rfl)) rfl
theorem nq_867 : Cond.selects RX8 yX8_count yX8_count ∈ wsG := mg (mt_3 _ (List.mem_of_getElem? (i := 153) rfl)) rfl
theorem nq_868 : Cond.code yX8_count cX8_count 2 (some .int) ∈ wsG := mg (mt_3 _ (List.mem_of_getElem? (i := 154) rfl)) rfl
theorem nq_869 : Cond.methodLink RX8 248 yX7_allToWrite ∈ wsG := mg (mt_3 _ (List.mem_of_getElem? (i := 155) rfl)) rfl
theorem nq_870 : Cond.methodLink RX8 251 yX7_allToRead ∈ wsG := mg (mt_3 _ (List.mem_of_getElem? (i := 156) rfl)) rfl
theorem nq_871 : Cond.methodLink RX8 254 yX1_flaggedBits ∈ wsG := mg (mt_3 _ (List.mem_of_getElem? (i := 157) rfl)) rfl
theorem nq_872 : Cond.methodLink RX8 257 yX1_meetingBits ∈ wsG := mg (mt_3 _ (List.mem_of_getElem? (i := 158) rfl)) rfl
theorem nq_873 : Cond.static yX1_meetingBits ∈ wsG := mg (mt_3 _ (List.mem_of_getElem? (i := 159) rfl)) rfl
theorem nq_874 : Cond.code yX1_meetingBits cX1_meetingBits 3 (some .int) ∈ wsG := mg (mt_3 _ (List.mem_of_getElem? (i := 160) rfl)) rfl
theorem nq_875 : Cond.methodLink RX1 60 yX1_leastMeeting ∈ wsG := mg (mt_3 _ (List.mem_of_getElem? (i := 161) rfl)) rfl
theorem nq_876 : Cond.methodLink RL 122 yX9_count ∈ wsG := mg (mt_5 _ (List.mem_of_getElem? (i := 116) rfl)) rfl
theorem nq_877 : Cond.instanceMethod yX9_count ∈ wsG := mg (mt_5 _ (List.mem_of_getElem? (i := 117) rfl)) rfl
theorem nq_878 : Cond.selects RX9 yX9_count yX9_count ∈ wsG := mg (mt_5 _ (List.mem_of_getElem? (i := 118) rfl)) rfl
theorem nq_879 : Cond.code yX9_count cX9_count 2 (some .int) ∈ wsG := mg (mt_5 _ (List.mem_of_getElem? (i := 119) rfl)) rfl
theorem nq_880 : Cond.methodLink RX9 327 yX9_meetingCells ∈ wsG := mg (mt_5 _ (List.mem_of_getElem? (i := 120) rfl)) rfl
theorem nq_881 : Cond.instanceMethod yX9_meetingCells ∈ wsG := mg (mt_5 _ (List.mem_of_getElem? (i := 122) rfl)) rfl
theorem nq_882 : Cond.selects RX9 yX9_meetingCells yX9_meetingCells ∈ wsG := mg (mp_4 (_, 39) (List.mem_of_getElem? (i := 9) rfl)) rfl
theorem nq_883 : Cond.code yX9_meetingCells cX9_meetingCells 3 (some .int) ∈ wsG := mg (mt_5 _ (List.mem_of_getElem? (i := 123) rfl)) rfl
theorem inG0 : ∀ w ∈ u_ws RX0 TX0 3, w ∈ wsG := List.forall_mem_cons.mpr ⟨mg (mt_1 _ (List.mem_of_getElem? (i := 133) rfl)) rfl, List.forall_mem_cons.mpr ⟨mg (mt_1 _ (List.mem_of_getElem? (i := 135) rfl)) rfl, List.forall_mem_cons.mpr ⟨mg (mt_1 _ (List.mem_of_getElem? (i := 137) rfl)) rfl, fun _ h => absurd h List.not_mem_nil⟩⟩⟩
theorem inG2 : ∀ w ∈ u_ws RX2 TX2 3, w ∈ wsG := List.forall_mem_cons.mpr ⟨mg (mt_1 _ (List.mem_of_getElem? (i := 202) rfl)) rfl, List.forall_mem_cons.mpr ⟨mg (mt_1 _ (List.mem_of_getElem? (i := 204) rfl)) rfl, List.forall_mem_cons.mpr ⟨mg (mt_1 _ (List.mem_of_getElem? (i := 206) rfl)) rfl, fun _ h => absurd h List.not_mem_nil⟩⟩⟩
theorem inG3 : ∀ w ∈ u_ws RX3 TX3 7, w ∈ wsG := List.forall_mem_cons.mpr ⟨mg (mt_1 _ (List.mem_of_getElem? (i := 177) rfl)) rfl, List.forall_mem_cons.mpr ⟨mg (mt_1 _ (List.mem_of_getElem? (i := 179) rfl)) rfl, List.forall_mem_cons.mpr ⟨mg (mt_1 _ (List.mem_of_getElem? (i := 181) rfl)) rfl, List.forall_mem_cons.mpr ⟨mg (mt_1 _ (List.mem_of_getElem? (i := 183) rfl)) rfl, List.forall_mem_cons.mpr ⟨mg (mt_1 _ (List.mem_of_getElem? (i := 185) rfl)) rfl, List.forall_mem_cons.mpr ⟨mg (mt_1 _ (List.mem_of_getElem? (i := 187) rfl)) rfl, List.forall_mem_cons.mpr ⟨mg (mt_1 _ (List.mem_of_getElem? (i := 189) rfl)) rfl, fun _ h => absurd h List.not_mem_nil⟩⟩⟩⟩⟩⟩⟩
theorem inG4 : ∀ w ∈ u_ws RX4 TX4 9, w ∈ wsG := List.forall_mem_cons.mpr ⟨mg (mt_1 _ (List.mem_of_getElem? (i := 103) rfl)) rfl, List.forall_mem_cons.mpr ⟨mg (mt_1 _ (List.mem_of_getElem? (i := 105) rfl)) rfl, List.forall_mem_cons.mpr ⟨mg (mt_1 _ (List.mem_of_getElem? (i := 107) rfl)) rfl, List.forall_mem_cons.mpr ⟨mg (mt_1 _ (List.mem_of_getElem? (i := 109) rfl)) rfl, List.forall_mem_cons.mpr ⟨mg (mt_1 _ (List.mem_of_getElem? (i := 111) rfl)) rfl, List.forall_mem_cons.mpr ⟨mg (mt_1 _ (List.mem_of_getElem? (i := 113) rfl)) rfl, List.forall_mem_cons.mpr ⟨mg (mt_1 _ (List.mem_of_getElem? (i := 115) rfl)) rfl, List.forall_mem_cons.mpr ⟨mg (mt_1 _ (List.mem_of_getElem? (i := 117) rfl)) rfl, List.forall_mem_cons.mpr ⟨mg (mt_1 _ (List.mem_of_getElem? (i := 119) rfl)) rfl, fun _ h => absurd h List.not_mem_nil⟩⟩⟩⟩⟩⟩⟩⟩⟩
theorem inG5 : ∀ w ∈ u_ws RX5 TX5 4, w ∈ wsG := List.forall_mem_cons.mpr ⟨mg (mt_1 _ (List.mem_of_getElem? (i := 152) rfl)) rfl, List.forall_mem_cons.mpr ⟨mg (mt_1 _ (List.mem_of_getElem? (i := 154) rfl)) rfl, List.forall_mem_cons.mpr ⟨mg (mt_1 _ (List.mem_of_getElem? (i := 156) rfl)) rfl, List.forall_mem_cons.mpr ⟨mg (mt_1 _ (List.mem_of_getElem? (i := 158) rfl)) rfl, fun _ h => absurd h List.not_mem_nil⟩⟩⟩⟩
theorem inG6 : ∀ w ∈ u_ws RX6 TX6 2, w ∈ wsG := List.forall_mem_cons.mpr ⟨mg (mt_1 _ (List.mem_of_getElem? (i := 32) rfl)) rfl, List.forall_mem_cons.mpr ⟨mg (mt_1 _ (List.mem_of_getElem? (i := 34) rfl)) rfl, fun _ h => absurd h List.not_mem_nil⟩⟩
theorem inG7 : ∀ w ∈ u_ws RX7 TX7 4, w ∈ wsG := List.forall_mem_cons.mpr ⟨mg (mt_1 _ (List.mem_of_getElem? (i := 65) rfl)) rfl, List.forall_mem_cons.mpr ⟨mg (mt_1 _ (List.mem_of_getElem? (i := 67) rfl)) rfl, List.forall_mem_cons.mpr ⟨mg (mt_1 _ (List.mem_of_getElem? (i := 69) rfl)) rfl, List.forall_mem_cons.mpr ⟨mg (mt_1 _ (List.mem_of_getElem? (i := 71) rfl)) rfl, fun _ h => absurd h List.not_mem_nil⟩⟩⟩⟩
theorem inG8 : ∀ w ∈ u_ws RX8 TX8 10, w ∈ wsG := List.forall_mem_cons.mpr ⟨mg (mt_1 _ (List.mem_of_getElem? (i := 220) rfl)) rfl, List.forall_mem_cons.mpr ⟨mg (mt_1 _ (List.mem_of_getElem? (i := 222) rfl)) rfl, List.forall_mem_cons.mpr ⟨mg (mt_1 _ (List.mem_of_getElem? (i := 224) rfl)) rfl, List.forall_mem_cons.mpr ⟨mg (mt_1 _ (List.mem_of_getElem? (i := 226) rfl)) rfl, List.forall_mem_cons.mpr ⟨mg (mt_1 _ (List.mem_of_getElem? (i := 228) rfl)) rfl, List.forall_mem_cons.mpr ⟨mg (mt_1 _ (List.mem_of_getElem? (i := 230) rfl)) rfl, List.forall_mem_cons.mpr ⟨mg (mt_1 _ (List.mem_of_getElem? (i := 232) rfl)) rfl, List.forall_mem_cons.mpr ⟨mg (mt_1 _ (List.mem_of_getElem? (i := 234) rfl)) rfl, List.forall_mem_cons.mpr ⟨mg (mt_1 _ (List.mem_of_getElem? (i := 236) rfl)) rfl, List.forall_mem_cons.mpr ⟨mg (mt_1 _ (List.mem_of_getElem? (i := 238) rfl)) rfl, fun _ h => absurd h List.not_mem_nil⟩⟩⟩⟩⟩⟩⟩⟩⟩⟩
theorem inG9 : ∀ w ∈ u_ws RX9 TX9 39, w ∈ wsG := List.forall_mem_cons.mpr ⟨mg (mt_3 _ (List.mem_of_getElem? (i := 207) rfl)) rfl, List.forall_mem_cons.mpr ⟨mg (mt_3 _ (List.mem_of_getElem? (i := 209) rfl)) rfl, List.forall_mem_cons.mpr ⟨mg (mt_3 _ (List.mem_of_getElem? (i := 211) rfl)) rfl, List.forall_mem_cons.mpr ⟨mg (mt_3 _ (List.mem_of_getElem? (i := 213) rfl)) rfl, List.forall_mem_cons.mpr ⟨mg (mt_3 _ (List.mem_of_getElem? (i := 215) rfl)) rfl, List.forall_mem_cons.mpr ⟨mg (mt_3 _ (List.mem_of_getElem? (i := 217) rfl)) rfl, List.forall_mem_cons.mpr ⟨mg (mt_3 _ (List.mem_of_getElem? (i := 219) rfl)) rfl, List.forall_mem_cons.mpr ⟨mg (mt_3 _ (List.mem_of_getElem? (i := 221) rfl)) rfl, List.forall_mem_cons.mpr ⟨mg (mt_3 _ (List.mem_of_getElem? (i := 223) rfl)) rfl, List.forall_mem_cons.mpr ⟨mg (mt_3 _ (List.mem_of_getElem? (i := 225) rfl)) rfl, List.forall_mem_cons.mpr ⟨mg (mt_3 _ (List.mem_of_getElem? (i := 227) rfl)) rfl, List.forall_mem_cons.mpr ⟨mg (mt_3 _ (List.mem_of_getElem? (i := 229) rfl)) rfl, List.forall_mem_cons.mpr ⟨mg (mt_3 _ (List.mem_of_getElem? (i := 231) rfl)) rfl, List.forall_mem_cons.mpr ⟨mg (mt_3 _ (List.mem_of_getElem? (i := 233) rfl)) rfl, List.forall_mem_cons.mpr ⟨mg (mt_3 _ (List.mem_of_getElem? (i := 235) rfl)) rfl, List.forall_mem_cons.mpr ⟨mg (mt_3 _ (List.mem_of_getElem? (i := 237) rfl)) rfl, List.forall_mem_cons.mpr ⟨mg (mt_3 _ (List.mem_of_getElem? (i := 239) rfl)) rfl, List.forall_mem_cons.mpr ⟨mg (mt_4 _ (List.mem_of_getElem? (i := 1) rfl)) rfl, List.forall_mem_cons.mpr ⟨mg (mt_4 _ (List.mem_of_getElem? (i := 3) rfl)) rfl, List.forall_mem_cons.mpr ⟨mg (mt_4 _ (List.mem_of_getElem? (i := 5) rfl)) rfl, List.forall_mem_cons.mpr ⟨mg (mt_4 _ (List.mem_of_getElem? (i := 7) rfl)) rfl, List.forall_mem_cons.mpr ⟨mg (mt_4 _ (List.mem_of_getElem? (i := 9) rfl)) rfl, List.forall_mem_cons.mpr ⟨mg (mt_4 _ (List.mem_of_getElem? (i := 11) rfl)) rfl, List.forall_mem_cons.mpr ⟨mg (mt_4 _ (List.mem_of_getElem? (i := 13) rfl)) rfl, List.forall_mem_cons.mpr ⟨mg (mt_4 _ (List.mem_of_getElem? (i := 15) rfl)) rfl, List.forall_mem_cons.mpr ⟨mg (mt_4 _ (List.mem_of_getElem? (i := 17) rfl)) rfl, List.forall_mem_cons.mpr ⟨mg (mt_4 _ (List.mem_of_getElem? (i := 19) rfl)) rfl, List.forall_mem_cons.mpr ⟨mg (mt_4 _ (List.mem_of_getElem? (i := 21) rfl)) rfl, List.forall_mem_cons.mpr ⟨mg (mt_4 _ (List.mem_of_getElem? (i := 23) rfl)) rfl, List.forall_mem_cons.mpr ⟨mg (mt_4 _ (List.mem_of_getElem? (i := 25) rfl)) rfl, List.forall_mem_cons.mpr ⟨mg (mt_4 _ (List.mem_of_getElem? (i := 27) rfl)) rfl, List.forall_mem_cons.mpr ⟨mg (mt_4 _ (List.mem_of_getElem? (i := 29) rfl)) rfl, List.forall_mem_cons.mpr ⟨mg (mt_4 _ (List.mem_of_getElem? (i := 31) rfl)) rfl, List.forall_mem_cons.mpr ⟨mg (mt_4 _ (List.mem_of_getElem? (i := 33) rfl)) rfl, List.forall_mem_cons.mpr ⟨mg (mt_4 _ (List.mem_of_getElem? (i := 35) rfl)) rfl, List.forall_mem_cons.mpr ⟨mg (mt_4 _ (List.mem_of_getElem? (i := 37) rfl)) rfl, List.forall_mem_cons.mpr ⟨mg (mt_4 _ (List.mem_of_getElem? (i := 39) rfl)) rfl, List.forall_mem_cons.mpr ⟨mg (mt_4 _ (List.mem_of_getElem? (i := 41) rfl)) rfl, List.forall_mem_cons.mpr ⟨mg (mt_4 _ (List.mem_of_getElem? (i := 43) rfl)) rfl, fun _ h => absurd h List.not_mem_nil⟩⟩⟩⟩⟩⟩⟩⟩⟩⟩⟩⟩⟩⟩⟩⟩⟩⟩⟩⟩⟩⟩⟩⟩⟩⟩⟩⟩⟩⟩⟩⟩⟩⟩⟩⟩⟩⟩⟩
