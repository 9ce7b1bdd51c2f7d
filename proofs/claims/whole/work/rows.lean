section
-- ===== PART A: goes FIRST, ahead of the names: the tables' words, and 'selects' of the private methods out of them =====
/-- a private method of a class that the tables say can be made, by its rows of tables_1 -/
def lw_okq (q : MethodName × Nat) : Prop := (q.1.cls ≠ "java/lang/invoke/MethodHandle" ∧ q.1.cls ≠ "java/lang/invoke/VarHandle") ∧ Cond.instantiable q.1.cls q.2 ∈ tables_1 ∧ Cond.privateMethod q.1 ∈ tables_1 ∧ Cond.instanceMethod q.1 ∈ tables_1
theorem lw_p0 : lw_okq (⟨"LockWatch$Text", "tellStep", "(ILLockWatch$Row;)I"⟩, 2) := ⟨⟨by decide +kernel, by decide +kernel⟩, List.mem_of_getElem? (i := 24) (by decide +kernel), List.mem_of_getElem? (i := 263) (by decide +kernel), List.mem_of_getElem? (i := 264) (by decide +kernel)⟩
theorem lw_p1 : lw_okq (⟨"LockWatch$World", "awaitable", "(I)I"⟩, 4) := ⟨⟨by decide +kernel, by decide +kernel⟩, List.mem_of_getElem? (i := 45) (by decide +kernel), List.mem_of_getElem? (i := 284) (by decide +kernel), List.mem_of_getElem? (i := 285) (by decide +kernel)⟩
theorem lw_p2 : lw_okq (⟨"LockWatch$Row", "order", "(III)V"⟩, 9) := ⟨⟨by decide +kernel, by decide +kernel⟩, List.mem_of_getElem? (i := 39) (by decide +kernel), List.mem_of_getElem? (i := 302) (by decide +kernel), List.mem_of_getElem? (i := 303) (by decide +kernel)⟩
theorem lw_p3 : lw_okq (⟨"LockWatch$Row", "replay", "(I)Z"⟩, 9) := ⟨⟨by decide +kernel, by decide +kernel⟩, List.mem_of_getElem? (i := 39) (by decide +kernel), List.mem_of_getElem? (i := 348) (by decide +kernel), List.mem_of_getElem? (i := 349) (by decide +kernel)⟩
theorem lw_p4 : lw_okq (⟨"LockWatch$Row", "open", "(III)V"⟩, 9) := ⟨⟨by decide +kernel, by decide +kernel⟩, List.mem_of_getElem? (i := 39) (by decide +kernel), List.mem_of_getElem? (i := 352) (by decide +kernel), List.mem_of_getElem? (i := 353) (by decide +kernel)⟩
theorem lw_p5 : lw_okq (⟨"LockWatch$Row", "exchange", "(I)V"⟩, 9) := ⟨⟨by decide +kernel, by decide +kernel⟩, List.mem_of_getElem? (i := 39) (by decide +kernel), List.mem_of_getElem? (i := 373) (by decide +kernel), List.mem_of_getElem? (i := 374) (by decide +kernel)⟩
theorem lw_p6 : lw_okq (⟨"LockWatch$Rings", "links", "(LLockWatch$Row;II)Z"⟩, 7) := ⟨⟨by decide +kernel, by decide +kernel⟩, List.mem_of_getElem? (i := 162) (by decide +kernel), List.mem_of_getElem? (i := 487) (by decide +kernel), List.mem_of_getElem? (i := 488) (by decide +kernel)⟩
theorem lw_p7 : lw_okq (⟨"LockWatch$Rings", "tallyRing", "(LLockWatch$Row;I)V"⟩, 7) := ⟨⟨by decide +kernel, by decide +kernel⟩, List.mem_of_getElem? (i := 162) (by decide +kernel), List.mem_of_getElem? (i := 492) (by decide +kernel), List.mem_of_getElem? (i := 493) (by decide +kernel)⟩
theorem lw_p8 : lw_okq (⟨"LockWatch", "canBe", "(I)Z"⟩, 10) := ⟨⟨by decide +kernel, by decide +kernel⟩, List.mem_of_getElem? (i := 16) (by decide +kernel), List.mem_of_getElem? (i := 510) (by decide +kernel), List.mem_of_getElem? (i := 511) (by decide +kernel)⟩
theorem lw_p9 : lw_okq (⟨"LockWatch", "isCellSo", "(IZI)Z"⟩, 10) := ⟨⟨by decide +kernel, by decide +kernel⟩, List.mem_of_getElem? (i := 16) (by decide +kernel), List.mem_of_getElem? (i := 514) (by decide +kernel), List.mem_of_getElem? (i := 515) (by decide +kernel)⟩
theorem lw_p10 : lw_okq (⟨"LockWatch", "areFeasible", "(I)Z"⟩, 10) := ⟨⟨by decide +kernel, by decide +kernel⟩, List.mem_of_getElem? (i := 16) (by decide +kernel), List.mem_of_getElem? (i := 518) (by decide +kernel), List.mem_of_getElem? (i := 519) (by decide +kernel)⟩
theorem lw_p11 : lw_okq (⟨"LockWatch$Seen", "fits", "(LLockWatch$Row;I)Z"⟩, 4) := ⟨⟨by decide +kernel, by decide +kernel⟩, List.mem_of_getElem? (i := 142) (by decide +kernel), List.mem_of_getElem? (i := 547) (by decide +kernel), List.mem_of_getElem? (i := 548) (by decide +kernel)⟩
theorem lw_p12 : lw_okq (⟨"LockWatch$Chances", "spreadTouch", "(LLockWatch$Row;II)V"⟩, 3) := ⟨⟨by decide +kernel, by decide +kernel⟩, List.mem_of_getElem? (i := 193) (by decide +kernel), List.mem_of_getElem? (i := 594) (by decide +kernel), List.mem_of_getElem? (i := 595) (by decide +kernel)⟩
theorem lw_p13 : lw_okq (⟨"LockWatch", "faultsOfTrial", "()I"⟩, 10) := ⟨⟨by decide +kernel, by decide +kernel⟩, List.mem_of_getElem? (i := 16) (by decide +kernel), List.mem_of_getElem? (i := 615) (by decide +kernel), List.mem_of_getElem? (i := 616) (by decide +kernel)⟩
theorem lw_p14 : lw_okq (⟨"LockWatchModel", "readText", "()I"⟩, 39) := ⟨⟨by decide +kernel, by decide +kernel⟩, List.mem_of_getElem? (i := 643) (by decide +kernel), List.mem_of_getElem? (i := 783) (by decide +kernel), List.mem_of_getElem? (i := 784) (by decide +kernel)⟩
theorem lw_p15 : lw_okq (⟨"LockWatchModel", "begin", "()V"⟩, 39) := ⟨⟨by decide +kernel, by decide +kernel⟩, List.mem_of_getElem? (i := 643) (by decide +kernel), List.mem_of_getElem? (i := 787) (by decide +kernel), List.mem_of_getElem? (i := 788) (by decide +kernel)⟩
def lw_privs_1 : List (MethodName × Nat) := [(⟨"LockWatch$Text", "tellStep", "(ILLockWatch$Row;)I"⟩, 2), (⟨"LockWatch$World", "awaitable", "(I)I"⟩, 4), (⟨"LockWatch$Row", "order", "(III)V"⟩, 9), (⟨"LockWatch$Row", "replay", "(I)Z"⟩, 9), (⟨"LockWatch$Row", "open", "(III)V"⟩, 9), (⟨"LockWatch$Row", "exchange", "(I)V"⟩, 9), (⟨"LockWatch$Rings", "links", "(LLockWatch$Row;II)Z"⟩, 7), (⟨"LockWatch$Rings", "tallyRing", "(LLockWatch$Row;I)V"⟩, 7), (⟨"LockWatch", "canBe", "(I)Z"⟩, 10), (⟨"LockWatch", "isCellSo", "(IZI)Z"⟩, 10), (⟨"LockWatch", "areFeasible", "(I)Z"⟩, 10), (⟨"LockWatch$Seen", "fits", "(LLockWatch$Row;I)Z"⟩, 4), (⟨"LockWatch$Chances", "spreadTouch", "(LLockWatch$Row;II)V"⟩, 3), (⟨"LockWatch", "faultsOfTrial", "()I"⟩, 10), (⟨"LockWatchModel", "readText", "()I"⟩, 39), (⟨"LockWatchModel", "begin", "()V"⟩, 39)]
theorem lw_r1 : ∀ q ∈ lw_privs_1, lw_okq q := List.forall_mem_cons.mpr ⟨lw_p0, List.forall_mem_cons.mpr ⟨lw_p1, List.forall_mem_cons.mpr ⟨lw_p2, List.forall_mem_cons.mpr ⟨lw_p3, List.forall_mem_cons.mpr ⟨lw_p4, List.forall_mem_cons.mpr ⟨lw_p5, List.forall_mem_cons.mpr ⟨lw_p6, List.forall_mem_cons.mpr ⟨lw_p7, List.forall_mem_cons.mpr ⟨lw_p8, List.forall_mem_cons.mpr ⟨lw_p9, List.forall_mem_cons.mpr ⟨lw_p10, List.forall_mem_cons.mpr ⟨lw_p11, List.forall_mem_cons.mpr ⟨lw_p12, List.forall_mem_cons.mpr ⟨lw_p13, List.forall_mem_cons.mpr ⟨lw_p14, List.forall_mem_cons.mpr ⟨lw_p15, fun _ h => absurd h List.not_mem_nil⟩⟩⟩⟩⟩⟩⟩⟩⟩⟩⟩⟩⟩⟩⟩⟩
theorem lw_p16 : lw_okq (⟨"LockWatchModel", "isRunning", "(I)Z"⟩, 39) := ⟨⟨by decide +kernel, by decide +kernel⟩, List.mem_of_getElem? (i := 643) (by decide +kernel), List.mem_of_getElem? (i := 791) (by decide +kernel), List.mem_of_getElem? (i := 792) (by decide +kernel)⟩
theorem lw_p17 : lw_okq (⟨"LockWatchModel", "mayAny", "(II)Z"⟩, 39) := ⟨⟨by decide +kernel, by decide +kernel⟩, List.mem_of_getElem? (i := 643) (by decide +kernel), List.mem_of_getElem? (i := 802) (by decide +kernel), List.mem_of_getElem? (i := 803) (by decide +kernel)⟩
theorem lw_p18 : lw_okq (⟨"LockWatchModel", "mayBe", "(III)Z"⟩, 39) := ⟨⟨by decide +kernel, by decide +kernel⟩, List.mem_of_getElem? (i := 643) (by decide +kernel), List.mem_of_getElem? (i := 806) (by decide +kernel), List.mem_of_getElem? (i := 807) (by decide +kernel)⟩
theorem lw_p19 : lw_okq (⟨"LockWatchModel", "isFree", "(III)Z"⟩, 39) := ⟨⟨by decide +kernel, by decide +kernel⟩, List.mem_of_getElem? (i := 643) (by decide +kernel), List.mem_of_getElem? (i := 810) (by decide +kernel), List.mem_of_getElem? (i := 811) (by decide +kernel)⟩
theorem lw_p20 : lw_okq (⟨"LockWatchModel", "writeHeld", "()I"⟩, 39) := ⟨⟨by decide +kernel, by decide +kernel⟩, List.mem_of_getElem? (i := 643) (by decide +kernel), List.mem_of_getElem? (i := 814) (by decide +kernel), List.mem_of_getElem? (i := 815) (by decide +kernel)⟩
theorem lw_p21 : lw_okq (⟨"LockWatchModel", "readHeld", "()I"⟩, 39) := ⟨⟨by decide +kernel, by decide +kernel⟩, List.mem_of_getElem? (i := 643) (by decide +kernel), List.mem_of_getElem? (i := 818) (by decide +kernel), List.mem_of_getElem? (i := 819) (by decide +kernel)⟩
theorem lw_p22 : lw_okq (⟨"LockWatchModel", "go", "(III)V"⟩, 39) := ⟨⟨by decide +kernel, by decide +kernel⟩, List.mem_of_getElem? (i := 643) (by decide +kernel), List.mem_of_getElem? (i := 825) (by decide +kernel), List.mem_of_getElem? (i := 826) (by decide +kernel)⟩
theorem lw_p23 : lw_okq (⟨"LockWatchModel", "many", "(I)I"⟩, 39) := ⟨⟨by decide +kernel, by decide +kernel⟩, List.mem_of_getElem? (i := 643) (by decide +kernel), List.mem_of_getElem? (i := 833) (by decide +kernel), List.mem_of_getElem? (i := 834) (by decide +kernel)⟩
theorem lw_p24 : lw_okq (⟨"LockWatchModel", "isStep", "(II)Z"⟩, 39) := ⟨⟨by decide +kernel, by decide +kernel⟩, List.mem_of_getElem? (i := 643) (by decide +kernel), List.mem_of_getElem? (i := 841) (by decide +kernel), List.mem_of_getElem? (i := 842) (by decide +kernel)⟩
theorem lw_p25 : lw_okq (⟨"LockWatchModel", "findHeld", "(I)V"⟩, 39) := ⟨⟨by decide +kernel, by decide +kernel⟩, List.mem_of_getElem? (i := 643) (by decide +kernel), List.mem_of_getElem? (i := 845) (by decide +kernel), List.mem_of_getElem? (i := 846) (by decide +kernel)⟩
theorem lw_p26 : lw_okq (⟨"LockWatchModel", "threadAt", "(II)I"⟩, 39) := ⟨⟨by decide +kernel, by decide +kernel⟩, List.mem_of_getElem? (i := 643) (by decide +kernel), List.mem_of_getElem? (i := 849) (by decide +kernel), List.mem_of_getElem? (i := 850) (by decide +kernel)⟩
theorem lw_p27 : lw_okq (⟨"LockWatchModel", "signAt", "(II)I"⟩, 39) := ⟨⟨by decide +kernel, by decide +kernel⟩, List.mem_of_getElem? (i := 643) (by decide +kernel), List.mem_of_getElem? (i := 853) (by decide +kernel), List.mem_of_getElem? (i := 854) (by decide +kernel)⟩
theorem lw_p28 : lw_okq (⟨"LockWatchModel", "aboutAt", "(II)I"⟩, 39) := ⟨⟨by decide +kernel, by decide +kernel⟩, List.mem_of_getElem? (i := 643) (by decide +kernel), List.mem_of_getElem? (i := 857) (by decide +kernel), List.mem_of_getElem? (i := 858) (by decide +kernel)⟩
theorem lw_p29 : lw_okq (⟨"LockWatchModel", "lay", "(II)V"⟩, 39) := ⟨⟨by decide +kernel, by decide +kernel⟩, List.mem_of_getElem? (i := 643) (by decide +kernel), List.mem_of_getElem? (i := 868) (by decide +kernel), List.mem_of_getElem? (i := 869) (by decide +kernel)⟩
theorem lw_p30 : lw_okq (⟨"LockWatchModel", "dropOn", "(II)V"⟩, 39) := ⟨⟨by decide +kernel, by decide +kernel⟩, List.mem_of_getElem? (i := 643) (by decide +kernel), List.mem_of_getElem? (i := 872) (by decide +kernel), List.mem_of_getElem? (i := 873) (by decide +kernel)⟩
theorem lw_p31 : lw_okq (⟨"LockWatchModel", "takeTrial", "()Z"⟩, 39) := ⟨⟨by decide +kernel, by decide +kernel⟩, List.mem_of_getElem? (i := 643) (by decide +kernel), List.mem_of_getElem? (i := 876) (by decide +kernel), List.mem_of_getElem? (i := 877) (by decide +kernel)⟩
def lw_privs_2 : List (MethodName × Nat) := [(⟨"LockWatchModel", "isRunning", "(I)Z"⟩, 39), (⟨"LockWatchModel", "mayAny", "(II)Z"⟩, 39), (⟨"LockWatchModel", "mayBe", "(III)Z"⟩, 39), (⟨"LockWatchModel", "isFree", "(III)Z"⟩, 39), (⟨"LockWatchModel", "writeHeld", "()I"⟩, 39), (⟨"LockWatchModel", "readHeld", "()I"⟩, 39), (⟨"LockWatchModel", "go", "(III)V"⟩, 39), (⟨"LockWatchModel", "many", "(I)I"⟩, 39), (⟨"LockWatchModel", "isStep", "(II)Z"⟩, 39), (⟨"LockWatchModel", "findHeld", "(I)V"⟩, 39), (⟨"LockWatchModel", "threadAt", "(II)I"⟩, 39), (⟨"LockWatchModel", "signAt", "(II)I"⟩, 39), (⟨"LockWatchModel", "aboutAt", "(II)I"⟩, 39), (⟨"LockWatchModel", "lay", "(II)V"⟩, 39), (⟨"LockWatchModel", "dropOn", "(II)V"⟩, 39), (⟨"LockWatchModel", "takeTrial", "()Z"⟩, 39)]
theorem lw_r2 : ∀ q ∈ lw_privs_2, lw_okq q := List.forall_mem_cons.mpr ⟨lw_p16, List.forall_mem_cons.mpr ⟨lw_p17, List.forall_mem_cons.mpr ⟨lw_p18, List.forall_mem_cons.mpr ⟨lw_p19, List.forall_mem_cons.mpr ⟨lw_p20, List.forall_mem_cons.mpr ⟨lw_p21, List.forall_mem_cons.mpr ⟨lw_p22, List.forall_mem_cons.mpr ⟨lw_p23, List.forall_mem_cons.mpr ⟨lw_p24, List.forall_mem_cons.mpr ⟨lw_p25, List.forall_mem_cons.mpr ⟨lw_p26, List.forall_mem_cons.mpr ⟨lw_p27, List.forall_mem_cons.mpr ⟨lw_p28, List.forall_mem_cons.mpr ⟨lw_p29, List.forall_mem_cons.mpr ⟨lw_p30, List.forall_mem_cons.mpr ⟨lw_p31, fun _ h => absurd h List.not_mem_nil⟩⟩⟩⟩⟩⟩⟩⟩⟩⟩⟩⟩⟩⟩⟩⟩
theorem lw_p32 : lw_okq (⟨"LockWatchModel", "isTrace", "(I)Z"⟩, 39) := ⟨⟨by decide +kernel, by decide +kernel⟩, List.mem_of_getElem? (i := 643) (by decide +kernel), List.mem_of_getElem? (i := 880) (by decide +kernel), List.mem_of_getElem? (i := 881) (by decide +kernel)⟩
theorem lw_p33 : lw_okq (⟨"LockWatchModel", "keepAct", "()V"⟩, 39) := ⟨⟨by decide +kernel, by decide +kernel⟩, List.mem_of_getElem? (i := 643) (by decide +kernel), List.mem_of_getElem? (i := 884) (by decide +kernel), List.mem_of_getElem? (i := 885) (by decide +kernel)⟩
theorem lw_p34 : lw_okq (⟨"LockWatchModel", "swapOn", "(II)V"⟩, 39) := ⟨⟨by decide +kernel, by decide +kernel⟩, List.mem_of_getElem? (i := 643) (by decide +kernel), List.mem_of_getElem? (i := 892) (by decide +kernel), List.mem_of_getElem? (i := 893) (by decide +kernel)⟩
theorem lw_p35 : lw_okq (⟨"LockWatchModel", "watchCell", "(IIIII)V"⟩, 39) := ⟨⟨by decide +kernel, by decide +kernel⟩, List.mem_of_getElem? (i := 643) (by decide +kernel), List.mem_of_getElem? (i := 908) (by decide +kernel), List.mem_of_getElem? (i := 909) (by decide +kernel)⟩
theorem lw_p36 : lw_okq (⟨"LockWatchModel", "isTouchOf", "(III)Z"⟩, 39) := ⟨⟨by decide +kernel, by decide +kernel⟩, List.mem_of_getElem? (i := 643) (by decide +kernel), List.mem_of_getElem? (i := 912) (by decide +kernel), List.mem_of_getElem? (i := 913) (by decide +kernel)⟩
theorem lw_p37 : lw_okq (⟨"LockWatchModel", "isTouch", "(II)Z"⟩, 39) := ⟨⟨by decide +kernel, by decide +kernel⟩, List.mem_of_getElem? (i := 643) (by decide +kernel), List.mem_of_getElem? (i := 916) (by decide +kernel), List.mem_of_getElem? (i := 917) (by decide +kernel)⟩
theorem lw_p38 : lw_okq (⟨"LockWatchModel", "watch", "(III)V"⟩, 39) := ⟨⟨by decide +kernel, by decide +kernel⟩, List.mem_of_getElem? (i := 643) (by decide +kernel), List.mem_of_getElem? (i := 920) (by decide +kernel), List.mem_of_getElem? (i := 921) (by decide +kernel)⟩
theorem lw_p39 : lw_okq (⟨"LockWatchModel", "guardsOf", "(II)I"⟩, 39) := ⟨⟨by decide +kernel, by decide +kernel⟩, List.mem_of_getElem? (i := 643) (by decide +kernel), List.mem_of_getElem? (i := 924) (by decide +kernel), List.mem_of_getElem? (i := 925) (by decide +kernel)⟩
theorem lw_p40 : lw_okq (⟨"LockWatchModel", "findBefore", "(I)V"⟩, 39) := ⟨⟨by decide +kernel, by decide +kernel⟩, List.mem_of_getElem? (i := 643) (by decide +kernel), List.mem_of_getElem? (i := 932) (by decide +kernel), List.mem_of_getElem? (i := 933) (by decide +kernel)⟩
theorem lw_p41 : lw_okq (⟨"LockWatchModel", "allBefore", "(III)I"⟩, 39) := ⟨⟨by decide +kernel, by decide +kernel⟩, List.mem_of_getElem? (i := 643) (by decide +kernel), List.mem_of_getElem? (i := 936) (by decide +kernel), List.mem_of_getElem? (i := 937) (by decide +kernel)⟩
theorem lw_p42 : lw_okq (⟨"LockWatchModel", "meetingsOf", "(I)I"⟩, 39) := ⟨⟨by decide +kernel, by decide +kernel⟩, List.mem_of_getElem? (i := 643) (by decide +kernel), List.mem_of_getElem? (i := 944) (by decide +kernel), List.mem_of_getElem? (i := 945) (by decide +kernel)⟩
theorem lw_p43 : lw_okq (⟨"LockWatchModel", "areMeeting", "(II)Z"⟩, 39) := ⟨⟨by decide +kernel, by decide +kernel⟩, List.mem_of_getElem? (i := 643) (by decide +kernel), List.mem_of_getElem? (i := 948) (by decide +kernel), List.mem_of_getElem? (i := 949) (by decide +kernel)⟩
theorem lw_p44 : lw_okq (⟨"LockWatchModel", "findEdges", "(I)V"⟩, 39) := ⟨⟨by decide +kernel, by decide +kernel⟩, List.mem_of_getElem? (i := 643) (by decide +kernel), List.mem_of_getElem? (i := 957) (by decide +kernel), List.mem_of_getElem? (i := 958) (by decide +kernel)⟩
theorem lw_p45 : lw_okq (⟨"LockWatchModel", "findRings", "(I)V"⟩, 39) := ⟨⟨by decide +kernel, by decide +kernel⟩, List.mem_of_getElem? (i := 643) (by decide +kernel), List.mem_of_getElem? (i := 966) (by decide +kernel), List.mem_of_getElem? (i := 967) (by decide +kernel)⟩
theorem lw_p46 : lw_okq (⟨"LockWatchModel", "goesOn", "(II)Z"⟩, 39) := ⟨⟨by decide +kernel, by decide +kernel⟩, List.mem_of_getElem? (i := 643) (by decide +kernel), List.mem_of_getElem? (i := 971) (by decide +kernel), List.mem_of_getElem? (i := 972) (by decide +kernel)⟩
theorem lw_p47 : lw_okq (⟨"LockWatchModel", "follows", "(II)Z"⟩, 39) := ⟨⟨by decide +kernel, by decide +kernel⟩, List.mem_of_getElem? (i := 643) (by decide +kernel), List.mem_of_getElem? (i := 975) (by decide +kernel), List.mem_of_getElem? (i := 976) (by decide +kernel)⟩
def lw_privs_3 : List (MethodName × Nat) := [(⟨"LockWatchModel", "isTrace", "(I)Z"⟩, 39), (⟨"LockWatchModel", "keepAct", "()V"⟩, 39), (⟨"LockWatchModel", "swapOn", "(II)V"⟩, 39), (⟨"LockWatchModel", "watchCell", "(IIIII)V"⟩, 39), (⟨"LockWatchModel", "isTouchOf", "(III)Z"⟩, 39), (⟨"LockWatchModel", "isTouch", "(II)Z"⟩, 39), (⟨"LockWatchModel", "watch", "(III)V"⟩, 39), (⟨"LockWatchModel", "guardsOf", "(II)I"⟩, 39), (⟨"LockWatchModel", "findBefore", "(I)V"⟩, 39), (⟨"LockWatchModel", "allBefore", "(III)I"⟩, 39), (⟨"LockWatchModel", "meetingsOf", "(I)I"⟩, 39), (⟨"LockWatchModel", "areMeeting", "(II)Z"⟩, 39), (⟨"LockWatchModel", "findEdges", "(I)V"⟩, 39), (⟨"LockWatchModel", "findRings", "(I)V"⟩, 39), (⟨"LockWatchModel", "goesOn", "(II)Z"⟩, 39), (⟨"LockWatchModel", "follows", "(II)Z"⟩, 39)]
theorem lw_r3 : ∀ q ∈ lw_privs_3, lw_okq q := List.forall_mem_cons.mpr ⟨lw_p32, List.forall_mem_cons.mpr ⟨lw_p33, List.forall_mem_cons.mpr ⟨lw_p34, List.forall_mem_cons.mpr ⟨lw_p35, List.forall_mem_cons.mpr ⟨lw_p36, List.forall_mem_cons.mpr ⟨lw_p37, List.forall_mem_cons.mpr ⟨lw_p38, List.forall_mem_cons.mpr ⟨lw_p39, List.forall_mem_cons.mpr ⟨lw_p40, List.forall_mem_cons.mpr ⟨lw_p41, List.forall_mem_cons.mpr ⟨lw_p42, List.forall_mem_cons.mpr ⟨lw_p43, List.forall_mem_cons.mpr ⟨lw_p44, List.forall_mem_cons.mpr ⟨lw_p45, List.forall_mem_cons.mpr ⟨lw_p46, List.forall_mem_cons.mpr ⟨lw_p47, fun _ h => absurd h List.not_mem_nil⟩⟩⟩⟩⟩⟩⟩⟩⟩⟩⟩⟩⟩⟩⟩⟩
theorem lw_p48 : lw_okq (⟨"LockWatchModel", "isUnlike", "(II)Z"⟩, 39) := ⟨⟨by decide +kernel, by decide +kernel⟩, List.mem_of_getElem? (i := 643) (by decide +kernel), List.mem_of_getElem? (i := 979) (by decide +kernel), List.mem_of_getElem? (i := 980) (by decide +kernel)⟩
theorem lw_p49 : lw_okq (⟨"LockWatchModel", "close", "(I)V"⟩, 39) := ⟨⟨by decide +kernel, by decide +kernel⟩, List.mem_of_getElem? (i := 643) (by decide +kernel), List.mem_of_getElem? (i := 983) (by decide +kernel), List.mem_of_getElem? (i := 984) (by decide +kernel)⟩
theorem lw_p50 : lw_okq (⟨"LockWatchModel", "takeRing", "(I)V"⟩, 39) := ⟨⟨by decide +kernel, by decide +kernel⟩, List.mem_of_getElem? (i := 643) (by decide +kernel), List.mem_of_getElem? (i := 987) (by decide +kernel), List.mem_of_getElem? (i := 988) (by decide +kernel)⟩
theorem lw_p51 : lw_okq (⟨"LockWatchModel", "areGated", "(II)Z"⟩, 39) := ⟨⟨by decide +kernel, by decide +kernel⟩, List.mem_of_getElem? (i := 643) (by decide +kernel), List.mem_of_getElem? (i := 991) (by decide +kernel), List.mem_of_getElem? (i := 992) (by decide +kernel)⟩
theorem lw_p52 : lw_okq (⟨"LockWatchModel", "findLonger", "()V"⟩, 39) := ⟨⟨by decide +kernel, by decide +kernel⟩, List.mem_of_getElem? (i := 643) (by decide +kernel), List.mem_of_getElem? (i := 996) (by decide +kernel), List.mem_of_getElem? (i := 997) (by decide +kernel)⟩
theorem lw_p53 : lw_okq (⟨"LockWatchModel", "tryThing", "(III)Z"⟩, 39) := ⟨⟨by decide +kernel, by decide +kernel⟩, List.mem_of_getElem? (i := 643) (by decide +kernel), List.mem_of_getElem? (i := 1012) (by decide +kernel), List.mem_of_getElem? (i := 1013) (by decide +kernel)⟩
theorem lw_p54 : lw_okq (⟨"LockWatchModel", "isSo", "(III)Z"⟩, 39) := ⟨⟨by decide +kernel, by decide +kernel⟩, List.mem_of_getElem? (i := 643) (by decide +kernel), List.mem_of_getElem? (i := 1016) (by decide +kernel), List.mem_of_getElem? (i := 1017) (by decide +kernel)⟩
theorem lw_p55 : lw_okq (⟨"LockWatchModel", "flaggedOn", "(II)I"⟩, 39) := ⟨⟨by decide +kernel, by decide +kernel⟩, List.mem_of_getElem? (i := 643) (by decide +kernel), List.mem_of_getElem? (i := 1020) (by decide +kernel), List.mem_of_getElem? (i := 1021) (by decide +kernel)⟩
theorem lw_p56 : lw_okq (⟨"LockWatchModel", "feasibleOn", "(I)I"⟩, 39) := ⟨⟨by decide +kernel, by decide +kernel⟩, List.mem_of_getElem? (i := 643) (by decide +kernel), List.mem_of_getElem? (i := 1024) (by decide +kernel), List.mem_of_getElem? (i := 1025) (by decide +kernel)⟩
theorem lw_p57 : lw_okq (⟨"LockWatchModel", "meetingCells", "()I"⟩, 39) := ⟨⟨by decide +kernel, by decide +kernel⟩, List.mem_of_getElem? (i := 643) (by decide +kernel), List.mem_of_getElem? (i := 1081) (by decide +kernel), List.mem_of_getElem? (i := 1082) (by decide +kernel)⟩
def lw_privs_4 : List (MethodName × Nat) := [(⟨"LockWatchModel", "isUnlike", "(II)Z"⟩, 39), (⟨"LockWatchModel", "close", "(I)V"⟩, 39), (⟨"LockWatchModel", "takeRing", "(I)V"⟩, 39), (⟨"LockWatchModel", "areGated", "(II)Z"⟩, 39), (⟨"LockWatchModel", "findLonger", "()V"⟩, 39), (⟨"LockWatchModel", "tryThing", "(III)Z"⟩, 39), (⟨"LockWatchModel", "isSo", "(III)Z"⟩, 39), (⟨"LockWatchModel", "flaggedOn", "(II)I"⟩, 39), (⟨"LockWatchModel", "feasibleOn", "(I)I"⟩, 39), (⟨"LockWatchModel", "meetingCells", "()I"⟩, 39)]
theorem lw_r4 : ∀ q ∈ lw_privs_4, lw_okq q := List.forall_mem_cons.mpr ⟨lw_p48, List.forall_mem_cons.mpr ⟨lw_p49, List.forall_mem_cons.mpr ⟨lw_p50, List.forall_mem_cons.mpr ⟨lw_p51, List.forall_mem_cons.mpr ⟨lw_p52, List.forall_mem_cons.mpr ⟨lw_p53, List.forall_mem_cons.mpr ⟨lw_p54, List.forall_mem_cons.mpr ⟨lw_p55, List.forall_mem_cons.mpr ⟨lw_p56, List.forall_mem_cons.mpr ⟨lw_p57, fun _ h => absurd h List.not_mem_nil⟩⟩⟩⟩⟩⟩⟩⟩⟩⟩
def lw_privs : List (MethodName × Nat) := lw_privs_1 ++ (lw_privs_2 ++ (lw_privs_3 ++ (lw_privs_4)))
def lw_tbl : List Cond := k2_sels lw_privs ++ tables_1
theorem lw_privs_ok : ∀ q ∈ lw_privs, lw_okq q := by
  show ∀ q ∈ lw_privs_1 ++ (lw_privs_2 ++ (lw_privs_3 ++ (lw_privs_4))), lw_okq q
  exact List.forall_mem_append.mpr ⟨lw_r1, List.forall_mem_append.mpr ⟨lw_r2, List.forall_mem_append.mpr ⟨lw_r3, lw_r4⟩⟩⟩
-- ===== end of PART A; then your names; then what follows =====
end
section

/-! ===== BEGIN printed: names, fields, word lists, decode rows ===== -/
def RX0 : String := "LockWatch$Acts"
def TX0 : u_T := fun k => match k with
  | 0 => ("LockWatch$Acts", "size", "I", false)
  | 1 => ("LockWatch$Acts", "place", "[I", true)
  | _ => ("LockWatch$Acts", "gone", "[I", true)
def tyX0 : Nat → FieldType := fun k => match k with
  | 0 => .int
  | 1 => .array .int
  | _ => .array .int
abbrev wsX00 : List Cond := u_ws RX0 TX0 3
theorem nmX0 : ∀ a, a < 3 → ∀ b, b < 3 → a ≠ b → (TX0 a).2.1 ≠ (TX0 b).2.1 := by decide +kernel
theorem tyX0_ok : ∀ k, k < 3 → parseFieldDescriptor (TX0 k).2.2.1 = some (tyX0 k) := by decide +kernel
abbrev cX0_init : ByteArray := prog_2_method_1_code
def yX0_init : MethodName := ⟨RX0, "<init>", "()V"⟩
abbrev cX0_push : ByteArray := prog_2_method_2_code
def yX0_push : MethodName := ⟨RX0, "push", "(II)V"⟩
abbrev cX0_takeBack : ByteArray := prog_2_method_3_code
def yX0_takeBack : MethodName := ⟨RX0, "takeBack", "(LLockWatch$Row;)V"⟩
def RX1 : String := "LockWatch$Cells"
def TX1 : u_T := fun k => match k with
  | _ => ("", "", "", false)
def tyX1 : Nat → FieldType := fun k => match k with
  | _ => .int
abbrev wsX10 : List Cond := u_ws RX1 TX1 0
theorem nmX1 : ∀ a, a < 0 → ∀ b, b < 0 → a ≠ b → (TX1 a).2.1 ≠ (TX1 b).2.1 := by decide +kernel
theorem tyX1_ok : ∀ k, k < 0 → parseFieldDescriptor (TX1 k).2.2.1 = some (tyX1 k) := by decide +kernel
abbrev cX1_stateOf : ByteArray := prog_3_method_2_code
def yX1_stateOf : MethodName := ⟨RX1, "stateOf", "(I)I"⟩
abbrev cX1_candidatesOf : ByteArray := prog_3_method_3_code
def yX1_candidatesOf : MethodName := ⟨RX1, "candidatesOf", "(I)I"⟩
abbrev cX1_ownerOf : ByteArray := prog_3_method_4_code
def yX1_ownerOf : MethodName := ⟨RX1, "ownerOf", "(I)I"⟩
abbrev cX1_touch : ByteArray := prog_3_method_5_code
def yX1_touch : MethodName := ⟨RX1, "touch", "(ILLockWatch$Row;II)I"⟩
abbrev cX1_watch : ByteArray := prog_3_method_6_code
def yX1_watch : MethodName := ⟨RX1, "watch", "(LLockWatch$Row;IIII)I"⟩
abbrev cX1_flaggedBy : ByteArray := prog_3_method_7_code
def yX1_flaggedBy : MethodName := ⟨RX1, "flaggedBy", "(LLockWatch$Row;II)I"⟩
abbrev cX1_flaggedBits : ByteArray := prog_3_method_8_code
def yX1_flaggedBits : MethodName := ⟨RX1, "flaggedBits", "(LLockWatch$Row;I)I"⟩
abbrev cX1_flaggedCount : ByteArray := prog_3_method_9_code
def yX1_flaggedCount : MethodName := ⟨RX1, "flaggedCount", "(LLockWatch$Row;I)I"⟩
abbrev cX1_touches : ByteArray := prog_3_method_10_code
def yX1_touches : MethodName := ⟨RX1, "touches", "(LLockWatch$Row;II)I"⟩
abbrev cX1_meet : ByteArray := prog_3_method_11_code
def yX1_meet : MethodName := ⟨RX1, "meet", "(LLockWatch$Row;III)Z"⟩
abbrev cX1_meetingCount : ByteArray := prog_3_method_12_code
def yX1_meetingCount : MethodName := ⟨RX1, "meetingCount", "(LLockWatch$Row;I)I"⟩
abbrev cX1_leastMeeting : ByteArray := prog_3_method_13_code
def yX1_leastMeeting : MethodName := ⟨RX1, "leastMeeting", "(LLockWatch$Row;I)I"⟩
abbrev cX1_meetingBits : ByteArray := prog_3_method_14_code
def yX1_meetingBits : MethodName := ⟨RX1, "meetingBits", "(LLockWatch$Row;)I"⟩
def RX2 : String := "LockWatch$Chances"
def TX2 : u_T := fun k => match k with
  | 0 => ("LockWatch$Chances", "whole", "J", false)
  | 1 => ("LockWatch$Chances", "now", "[J", true)
  | _ => ("LockWatch$Chances", "next", "[J", true)
def tyX2 : Nat → FieldType := fun k => match k with
  | 0 => .long
  | 1 => .array .long
  | _ => .array .long
abbrev wsX20 : List Cond := u_ws RX2 TX2 3
theorem nmX2 : ∀ a, a < 3 → ∀ b, b < 3 → a ≠ b → (TX2 a).2.1 ≠ (TX2 b).2.1 := by decide +kernel
theorem tyX2_ok : ∀ k, k < 3 → parseFieldDescriptor (TX2 k).2.2.1 = some (tyX2 k) := by decide +kernel
abbrev cX2_init : ByteArray := prog_4_method_1_code
def yX2_init : MethodName := ⟨RX2, "<init>", "()V"⟩
abbrev cX2_ofFlagged : ByteArray := prog_4_method_2_code
def yX2_ofFlagged : MethodName := ⟨RX2, "ofFlagged", "()J"⟩
abbrev cX2_spread : ByteArray := prog_4_method_3_code
def yX2_spread : MethodName := ⟨RX2, "spread", "(LLockWatch$Row;II)V"⟩
abbrev cX2_spreadTouch : ByteArray := prog_4_method_4_code
def yX2_spreadTouch : MethodName := ⟨RX2, "spreadTouch", "(LLockWatch$Row;II)V"⟩
def RX3 : String := "LockWatch$Rings"
def TX3 : u_T := fun k => match k with
  | 0 => ("LockWatch$Rings", "size", "I", false)
  | 1 => ("LockWatch$Rings", "at", "[I", true)
  | 2 => ("LockWatch$Rings", "from", "[I", true)
  | 3 => ("LockWatch$Rings", "to", "[I", true)
  | 4 => ("LockWatch$Rings", "tally", "[I", true)
  | 5 => ("LockWatch$Rings", "least", "I", false)
  | _ => ("LockWatch$Rings", "chain", "[I", true)
def tyX3 : Nat → FieldType := fun k => match k with
  | 0 => .int
  | 1 => .array .int
  | 2 => .array .int
  | 3 => .array .int
  | 4 => .array .int
  | 5 => .int
  | _ => .array .int
abbrev wsX30 : List Cond := u_ws RX3 TX3 7
theorem nmX3 : ∀ a, a < 7 → ∀ b, b < 7 → a ≠ b → (TX3 a).2.1 ≠ (TX3 b).2.1 := by decide +kernel
theorem tyX3_ok : ∀ k, k < 7 → parseFieldDescriptor (TX3 k).2.2.1 = some (tyX3 k) := by decide +kernel
abbrev cX3_init : ByteArray := prog_5_method_1_code
def yX3_init : MethodName := ⟨RX3, "<init>", "()V"⟩
abbrev cX3_collect : ByteArray := prog_5_method_2_code
def yX3_collect : MethodName := ⟨RX3, "collect", "(LLockWatch$Row;)V"⟩
abbrev cX3_between : ByteArray := prog_5_method_3_code
def yX3_between : MethodName := ⟨RX3, "between", "(II)I"⟩
abbrev cX3_feasible : ByteArray := prog_5_method_4_code
def yX3_feasible : MethodName := ⟨RX3, "feasible", "()I"⟩
abbrev cX3_find : ByteArray := prog_5_method_5_code
def yX3_find : MethodName := ⟨RX3, "find", "(LLockWatch$Row;)V"⟩
abbrev cX3_grow : ByteArray := prog_5_method_6_code
def yX3_grow : MethodName := ⟨RX3, "grow", "(LLockWatch$Rings;LLockWatch$Row;III)V"⟩
abbrev cX3_links : ByteArray := prog_5_method_7_code
def yX3_links : MethodName := ⟨RX3, "links", "(LLockWatch$Row;II)Z"⟩
abbrev cX3_tallyRing : ByteArray := prog_5_method_8_code
def yX3_tallyRing : MethodName := ⟨RX3, "tallyRing", "(LLockWatch$Row;I)V"⟩
def RX4 : String := "LockWatch$Row"
def TX4 : u_T := fun k => match k with
  | 0 => ("LockWatch$Row", "size", "I", false)
  | 1 => ("LockWatch$Row", "code", "[I", true)
  | 2 => ("LockWatch$Row", "heldToWrite", "[I", true)
  | 3 => ("LockWatch$Row", "heldToRead", "[I", true)
  | 4 => ("LockWatch$Row", "guards", "[I", true)
  | 5 => ("LockWatch$Row", "before", "[I", true)
  | 6 => ("LockWatch$Row", "past", "[I", true)
  | 7 => ("LockWatch$Row", "acted", "I", false)
  | _ => ("LockWatch$Row", "world", "LLockWatch$World;", true)
def tyX4 : Nat → FieldType := fun k => match k with
  | 0 => .int
  | 1 => .array .int
  | 2 => .array .int
  | 3 => .array .int
  | 4 => .array .int
  | 5 => .array .int
  | 6 => .array .int
  | 7 => .int
  | _ => .object "LockWatch$World"
abbrev wsX40 : List Cond := u_ws RX4 TX4 9
theorem nmX4 : ∀ a, a < 9 → ∀ b, b < 9 → a ≠ b → (TX4 a).2.1 ≠ (TX4 b).2.1 := by decide +kernel
theorem tyX4_ok : ∀ k, k < 9 → parseFieldDescriptor (TX4 k).2.2.1 = some (tyX4 k) := by decide +kernel
abbrev cX4_init : ByteArray := prog_6_method_1_code
def yX4_init : MethodName := ⟨RX4, "<init>", "()V"⟩
abbrev cX4_begin : ByteArray := prog_6_method_2_code
def yX4_begin : MethodName := ⟨RX4, "begin", "()V"⟩
abbrev cX4_pack : ByteArray := prog_6_method_3_code
def yX4_pack : MethodName := ⟨RX4, "pack", "(III)I"⟩
abbrev cX4_put : ByteArray := prog_6_method_4_code
def yX4_put : MethodName := ⟨RX4, "put", "(I)Z"⟩
abbrev cX4_order : ByteArray := prog_6_method_5_code
def yX4_order : MethodName := ⟨RX4, "order", "(III)V"⟩
abbrev cX4_copy : ByteArray := prog_6_method_6_code
def yX4_copy : MethodName := ⟨RX4, "copy", "(LLockWatch$Row;)V"⟩
abbrev cX4_has : ByteArray := prog_6_method_7_code
def yX4_has : MethodName := ⟨RX4, "has", "(I)Z"⟩
abbrev cX4_hasPair : ByteArray := prog_6_method_8_code
def yX4_hasPair : MethodName := ⟨RX4, "hasPair", "(I)Z"⟩
abbrev cX4_threadAt : ByteArray := prog_6_method_9_code
def yX4_threadAt : MethodName := ⟨RX4, "threadAt", "(I)I"⟩
abbrev cX4_signAt : ByteArray := prog_6_method_10_code
def yX4_signAt : MethodName := ⟨RX4, "signAt", "(I)I"⟩
abbrev cX4_aboutAt : ByteArray := prog_6_method_11_code
def yX4_aboutAt : MethodName := ⟨RX4, "aboutAt", "(I)I"⟩
abbrev cX4_heldAt : ByteArray := prog_6_method_12_code
def yX4_heldAt : MethodName := ⟨RX4, "heldAt", "(I)I"⟩
abbrev cX4_isAhead : ByteArray := prog_6_method_13_code
def yX4_isAhead : MethodName := ⟨RX4, "isAhead", "(II)Z"⟩
abbrev cX4_takesAt : ByteArray := prog_6_method_14_code
def yX4_takesAt : MethodName := ⟨RX4, "takesAt", "(I)Z"⟩
abbrev cX4_writesAt : ByteArray := prog_6_method_15_code
def yX4_writesAt : MethodName := ⟨RX4, "writesAt", "(I)Z"⟩
abbrev cX4_isTouch : ByteArray := prog_6_method_16_code
def yX4_isTouch : MethodName := ⟨RX4, "isTouch", "(I)Z"⟩
abbrev cX4_touchesAt : ByteArray := prog_6_method_17_code
def yX4_touchesAt : MethodName := ⟨RX4, "touchesAt", "(II)Z"⟩
abbrev cX4_takeOut : ByteArray := prog_6_method_18_code
def yX4_takeOut : MethodName := ⟨RX4, "takeOut", "(I)Z"⟩
abbrev cX4_putBack : ByteArray := prog_6_method_19_code
def yX4_putBack : MethodName := ⟨RX4, "putBack", "(II)V"⟩
abbrev cX4_open : ByteArray := prog_6_method_20_code
def yX4_open : MethodName := ⟨RX4, "open", "(III)V"⟩
abbrev cX4_changePlaces : ByteArray := prog_6_method_21_code
def yX4_changePlaces : MethodName := ⟨RX4, "changePlaces", "(I)Z"⟩
abbrev cX4_exchange : ByteArray := prog_6_method_22_code
def yX4_exchange : MethodName := ⟨RX4, "exchange", "(I)V"⟩
abbrev cX4_replay : ByteArray := prog_6_method_23_code
def yX4_replay : MethodName := ⟨RX4, "replay", "(I)Z"⟩
def RX5 : String := "LockWatch$Seen"
def TX5 : u_T := fun k => match k with
  | 0 => ("LockWatch$Seen", "size", "I", false)
  | 1 => ("LockWatch$Seen", "cell", "[I", true)
  | 2 => ("LockWatch$Seen", "state", "[I", true)
  | _ => ("LockWatch$Seen", "was", "[Z", true)
def tyX5 : Nat → FieldType := fun k => match k with
  | 0 => .int
  | 1 => .array .int
  | 2 => .array .int
  | _ => .array .boolean
abbrev wsX50 : List Cond := u_ws RX5 TX5 4
theorem nmX5 : ∀ a, a < 4 → ∀ b, b < 4 → a ≠ b → (TX5 a).2.1 ≠ (TX5 b).2.1 := by decide +kernel
theorem tyX5_ok : ∀ k, k < 4 → parseFieldDescriptor (TX5 k).2.2.1 = some (tyX5 k) := by decide +kernel
abbrev cX5_init : ByteArray := prog_7_method_1_code
def yX5_init : MethodName := ⟨RX5, "<init>", "()V"⟩
abbrev cX5_put : ByteArray := prog_7_method_2_code
def yX5_put : MethodName := ⟨RX5, "put", "(IIZ)Z"⟩
abbrev cX5_fits : ByteArray := prog_7_method_3_code
def yX5_fits : MethodName := ⟨RX5, "fits", "(LLockWatch$Row;I)Z"⟩
abbrev cX5_fittingCount : ByteArray := prog_7_method_4_code
def yX5_fittingCount : MethodName := ⟨RX5, "fittingCount", "(LLockWatch$Row;)I"⟩
abbrev cX5_leastFitting : ByteArray := prog_7_method_5_code
def yX5_leastFitting : MethodName := ⟨RX5, "leastFitting", "(LLockWatch$Row;)I"⟩
def RX6 : String := "LockWatch$Text"
def TX6 : u_T := fun k => match k with
  | 0 => ("LockWatch$Text", "length", "I", false)
  | _ => ("LockWatch$Text", "letters", "[I", true)
def tyX6 : Nat → FieldType := fun k => match k with
  | 0 => .int
  | _ => .array .int
abbrev wsX60 : List Cond := u_ws RX6 TX6 2
theorem nmX6 : ∀ a, a < 2 → ∀ b, b < 2 → a ≠ b → (TX6 a).2.1 ≠ (TX6 b).2.1 := by decide +kernel
theorem tyX6_ok : ∀ k, k < 2 → parseFieldDescriptor (TX6 k).2.2.1 = some (tyX6 k) := by decide +kernel
abbrev cX6_init : ByteArray := prog_8_method_1_code
def yX6_init : MethodName := ⟨RX6, "<init>", "()V"⟩
abbrev cX6_put : ByteArray := prog_8_method_2_code
def yX6_put : MethodName := ⟨RX6, "put", "(I)Z"⟩
abbrev cX6_tell : ByteArray := prog_8_method_3_code
def yX6_tell : MethodName := ⟨RX6, "tell", "(LLockWatch$Row;)I"⟩
abbrev cX6_tellStep : ByteArray := prog_8_method_4_code
def yX6_tellStep : MethodName := ⟨RX6, "tellStep", "(ILLockWatch$Row;)I"⟩
abbrev cX6_firstLetter : ByteArray := prog_8_method_5_code
def yX6_firstLetter : MethodName := ⟨RX6, "firstLetter", "(I)I"⟩
def RX7 : String := "LockWatch$World"
def TX7 : u_T := fun k => match k with
  | 0 => ("LockWatch$World", "started", "I", false)
  | 1 => ("LockWatch$World", "ended", "I", false)
  | 2 => ("LockWatch$World", "toWrite", "[I", true)
  | _ => ("LockWatch$World", "toRead", "[I", true)
def tyX7 : Nat → FieldType := fun k => match k with
  | 0 => .int
  | 1 => .int
  | 2 => .array .int
  | _ => .array .int
abbrev wsX70 : List Cond := u_ws RX7 TX7 4
theorem nmX7 : ∀ a, a < 4 → ∀ b, b < 4 → a ≠ b → (TX7 a).2.1 ≠ (TX7 b).2.1 := by decide +kernel
theorem tyX7_ok : ∀ k, k < 4 → parseFieldDescriptor (TX7 k).2.2.1 = some (tyX7 k) := by decide +kernel
abbrev cX7_init : ByteArray := prog_9_method_1_code
def yX7_init : MethodName := ⟨RX7, "<init>", "()V"⟩
abbrev cX7_begin : ByteArray := prog_9_method_2_code
def yX7_begin : MethodName := ⟨RX7, "begin", "()V"⟩
abbrev cX7_lives : ByteArray := prog_9_method_3_code
def yX7_lives : MethodName := ⟨RX7, "lives", "(I)Z"⟩
abbrev cX7_choices : ByteArray := prog_9_method_4_code
def yX7_choices : MethodName := ⟨RX7, "choices", "(II)I"⟩
abbrev cX7_allToWrite : ByteArray := prog_9_method_5_code
def yX7_allToWrite : MethodName := ⟨RX7, "allToWrite", "()I"⟩
abbrev cX7_allToRead : ByteArray := prog_9_method_6_code
def yX7_allToRead : MethodName := ⟨RX7, "allToRead", "()I"⟩
abbrev cX7_awaitable : ByteArray := prog_9_method_7_code
def yX7_awaitable : MethodName := ⟨RX7, "awaitable", "(I)I"⟩
abbrev cX7_go : ByteArray := prog_9_method_8_code
def yX7_go : MethodName := ⟨RX7, "go", "(III)V"⟩
def RX8 : String := "LockWatch"
def TX8 : u_T := fun k => match k with
  | 0 => ("LockWatch", "text", "LLockWatch$Text;", true)
  | 1 => ("LockWatch", "steps", "LLockWatch$Row;", true)
  | 2 => ("LockWatch", "trial", "LLockWatch$Row;", true)
  | 3 => ("LockWatch", "kept", "[LLockWatch$Row;", true)
  | 4 => ("LockWatch", "isKept", "[Z", true)
  | 5 => ("LockWatch", "acts", "LLockWatch$Acts;", true)
  | 6 => ("LockWatch", "seen", "LLockWatch$Seen;", true)
  | 7 => ("LockWatch", "ringsFound", "LLockWatch$Rings;", true)
  | 8 => ("LockWatch", "chances", "LLockWatch$Chances;", true)
  | _ => ("LockWatch", "theSeed", "J", false)
def tyX8 : Nat → FieldType := fun k => match k with
  | 0 => .object "LockWatch$Text"
  | 1 => .object "LockWatch$Row"
  | 2 => .object "LockWatch$Row"
  | 3 => .array (.object "LockWatch$Row")
  | 4 => .array .boolean
  | 5 => .object "LockWatch$Acts"
  | 6 => .object "LockWatch$Seen"
  | 7 => .object "LockWatch$Rings"
  | 8 => .object "LockWatch$Chances"
  | _ => .long
abbrev wsX80 : List Cond := u_ws RX8 TX8 10
theorem nmX8 : ∀ a, a < 10 → ∀ b, b < 10 → a ≠ b → (TX8 a).2.1 ≠ (TX8 b).2.1 := by decide +kernel
theorem tyX8_ok : ∀ k, k < 10 → parseFieldDescriptor (TX8 k).2.2.1 = some (tyX8 k) := by decide +kernel
abbrev cX8_init : ByteArray := prog_1_method_1_code
def yX8_init : MethodName := ⟨RX8, "<init>", "()V"⟩
abbrev cX8_write : ByteArray := prog_1_method_2_code
def yX8_write : MethodName := ⟨RX8, "write", "(I)I"⟩
abbrev cX8_wipe : ByteArray := prog_1_method_3_code
def yX8_wipe : MethodName := ⟨RX8, "wipe", "()I"⟩
abbrev cX8_fault : ByteArray := prog_1_method_4_code
def yX8_fault : MethodName := ⟨RX8, "fault", "()I"⟩
abbrev cX8_trace : ByteArray := prog_1_method_5_code
def yX8_trace : MethodName := ⟨RX8, "trace", "()I"⟩
abbrev cX8_step : ByteArray := prog_1_method_6_code
def yX8_step : MethodName := ⟨RX8, "step", "(II)I"⟩
abbrev cX8_drop : ByteArray := prog_1_method_7_code
def yX8_drop : MethodName := ⟨RX8, "drop", "(I)I"⟩
abbrev cX8_swap : ByteArray := prog_1_method_8_code
def yX8_swap : MethodName := ⟨RX8, "swap", "(I)I"⟩
abbrev cX8_undo : ByteArray := prog_1_method_9_code
def yX8_undo : MethodName := ⟨RX8, "undo", "()I"⟩
abbrev cX8_cell : ByteArray := prog_1_method_10_code
def yX8_cell : MethodName := ⟨RX8, "cell", "(III)I"⟩
abbrev cX8_ahead : ByteArray := prog_1_method_11_code
def yX8_ahead : MethodName := ⟨RX8, "ahead", "(II)I"⟩
abbrev cX8_meetings : ByteArray := prog_1_method_12_code
def yX8_meetings : MethodName := ⟨RX8, "meetings", "(II)I"⟩
abbrev cX8_edges : ByteArray := prog_1_method_13_code
def yX8_edges : MethodName := ⟨RX8, "edges", "(I)I"⟩
abbrev cX8_rings : ByteArray := prog_1_method_14_code
def yX8_rings : MethodName := ⟨RX8, "rings", "(II)I"⟩
abbrev cX8_first : ByteArray := prog_1_method_15_code
def yX8_first : MethodName := ⟨RX8, "first", "()I"⟩
abbrev cX8_judge : ByteArray := prog_1_method_16_code
def yX8_judge : MethodName := ⟨RX8, "judge", "(IJ)I"⟩
abbrev cX8_see : ByteArray := prog_1_method_17_code
def yX8_see : MethodName := ⟨RX8, "see", "(III)I"⟩
abbrev cX8_unsee : ByteArray := prog_1_method_18_code
def yX8_unsee : MethodName := ⟨RX8, "unsee", "()I"⟩
abbrev cX8_which : ByteArray := prog_1_method_19_code
def yX8_which : MethodName := ⟨RX8, "which", "(I)I"⟩
abbrev cX8_share : ByteArray := prog_1_method_20_code
def yX8_share : MethodName := ⟨RX8, "share", "(IZ)I"⟩
abbrev cX8_lost : ByteArray := prog_1_method_21_code
def yX8_lost : MethodName := ⟨RX8, "lost", "(IIZ)I"⟩
abbrev cX8_seed : ByteArray := prog_1_method_22_code
def yX8_seed : MethodName := ⟨RX8, "seed", "(J)J"⟩
abbrev cX8_drawn : ByteArray := prog_1_method_23_code
def yX8_drawn : MethodName := ⟨RX8, "drawn", "(I)I"⟩
abbrev cX8_keep : ByteArray := prog_1_method_24_code
def yX8_keep : MethodName := ⟨RX8, "keep", "(I)I"⟩
abbrev cX8_again : ByteArray := prog_1_method_25_code
def yX8_again : MethodName := ⟨RX8, "again", "(I)I"⟩
abbrev cX8_count : ByteArray := prog_1_method_26_code
def yX8_count : MethodName := ⟨RX8, "count", "(I)I"⟩
abbrev cX8_isOneOfFour : ByteArray := prog_1_method_27_code
def yX8_isOneOfFour : MethodName := ⟨RX8, "isOneOfFour", "(I)Z"⟩
abbrev cX8_fraction : ByteArray := prog_1_method_28_code
def yX8_fraction : MethodName := ⟨RX8, "fraction", "(JJZ)I"⟩
abbrev cX8_faultsOfTrial : ByteArray := prog_1_method_29_code
def yX8_faultsOfTrial : MethodName := ⟨RX8, "faultsOfTrial", "()I"⟩
abbrev cX8_canBe : ByteArray := prog_1_method_30_code
def yX8_canBe : MethodName := ⟨RX8, "canBe", "(I)Z"⟩
abbrev cX8_isCellSo : ByteArray := prog_1_method_31_code
def yX8_isCellSo : MethodName := ⟨RX8, "isCellSo", "(IZI)Z"⟩
abbrev cX8_areFeasible : ByteArray := prog_1_method_32_code
def yX8_areFeasible : MethodName := ⟨RX8, "areFeasible", "(I)Z"⟩
def RX9 : String := "LockWatchModel"
def TX9 : u_T := fun k => match k with
  | 0 => ("LockWatchModel", "writes", "[I", true)
  | 1 => ("LockWatchModel", "reads", "[I", true)
  | 2 => ("LockWatchModel", "started", "I", false)
  | 3 => ("LockWatchModel", "ended", "I", false)
  | 4 => ("LockWatchModel", "now", "[I", true)
  | 5 => ("LockWatchModel", "text", "[I", true)
  | 6 => ("LockWatchModel", "length", "I", false)
  | 7 => ("LockWatchModel", "readSteps", "[I", true)
  | 8 => ("LockWatchModel", "heldToWrite", "[I", true)
  | 9 => ("LockWatchModel", "heldToRead", "[I", true)
  | 10 => ("LockWatchModel", "acts", "I", false)
  | 11 => ("LockWatchModel", "next", "I", false)
  | 12 => ("LockWatchModel", "row", "[I", true)
  | 13 => ("LockWatchModel", "state", "I", false)
  | 14 => ("LockWatchModel", "candidates", "I", false)
  | 15 => ("LockWatchModel", "owner", "I", false)
  | 16 => ("LockWatchModel", "flagged", "I", false)
  | 17 => ("LockWatchModel", "touches", "I", false)
  | 18 => ("LockWatchModel", "before", "[I", true)
  | 19 => ("LockWatchModel", "firstMeeting", "I", false)
  | 20 => ("LockWatchModel", "manyEdges", "I", false)
  | 21 => ("LockWatchModel", "edgeStep", "[I", true)
  | 22 => ("LockWatchModel", "edgeFrom", "[I", true)
  | 23 => ("LockWatchModel", "edgeTo", "[I", true)
  | 24 => ("LockWatchModel", "level1", "I", false)
  | 25 => ("LockWatchModel", "ring", "[I", true)
  | 26 => ("LockWatchModel", "found", "[I", true)
  | 27 => ("LockWatchModel", "gated", "[I", true)
  | 28 => ("LockWatchModel", "ordered", "[I", true)
  | 29 => ("LockWatchModel", "feasible", "[I", true)
  | 30 => ("LockWatchModel", "firstRow", "J", false)
  | 31 => ("LockWatchModel", "aside", "[I", true)
  | 32 => ("LockWatchModel", "seen", "I", false)
  | 33 => ("LockWatchModel", "seenCell", "[I", true)
  | 34 => ("LockWatchModel", "seenState", "[I", true)
  | 35 => ("LockWatchModel", "seenWas", "[I", true)
  | 36 => ("LockWatchModel", "seed", "J", false)
  | 37 => ("LockWatchModel", "isKept", "[Z", true)
  | _ => ("LockWatchModel", "kept", "[I", true)
def tyX9 : Nat → FieldType := fun k => match k with
  | 0 => .array .int
  | 1 => .array .int
  | 2 => .int
  | 3 => .int
  | 4 => .array .int
  | 5 => .array .int
  | 6 => .int
  | 7 => .array .int
  | 8 => .array .int
  | 9 => .array .int
  | 10 => .int
  | 11 => .int
  | 12 => .array .int
  | 13 => .int
  | 14 => .int
  | 15 => .int
  | 16 => .int
  | 17 => .int
  | 18 => .array .int
  | 19 => .int
  | 20 => .int
  | 21 => .array .int
  | 22 => .array .int
  | 23 => .array .int
  | 24 => .int
  | 25 => .array .int
  | 26 => .array .int
  | 27 => .array .int
  | 28 => .array .int
  | 29 => .array .int
  | 30 => .long
  | 31 => .array .int
  | 32 => .int
  | 33 => .array .int
  | 34 => .array .int
  | 35 => .array .int
  | 36 => .long
  | 37 => .array .boolean
  | _ => .array .int
abbrev wsX90 : List Cond := u_ws RX9 TX9 39
theorem nmX9 : ∀ a, a < 39 → ∀ b, b < 39 → a ≠ b → (TX9 a).2.1 ≠ (TX9 b).2.1 := by decide +kernel
theorem tyX9_ok : ∀ k, k < 39 → parseFieldDescriptor (TX9 k).2.2.1 = some (tyX9 k) := by decide +kernel
abbrev cX9_init : ByteArray := prog_11_method_1_code
def yX9_init : MethodName := ⟨RX9, "<init>", "()V"⟩
abbrev cX9_in : ByteArray := prog_11_method_3_code
def yX9_in : MethodName := ⟨RX9, "in", "(JJJ)Z"⟩
abbrev cX9_has : ByteArray := prog_11_method_4_code
def yX9_has : MethodName := ⟨RX9, "has", "(II)Z"⟩
abbrev cX9_ones : ByteArray := prog_11_method_5_code
def yX9_ones : MethodName := ⟨RX9, "ones", "(I)I"⟩
abbrev cX9_begin : ByteArray := prog_11_method_6_code
def yX9_begin : MethodName := ⟨RX9, "begin", "()V"⟩
abbrev cX9_isRunning : ByteArray := prog_11_method_7_code
def yX9_isRunning : MethodName := ⟨RX9, "isRunning", "(I)Z"⟩
abbrev cX9_writeHeld : ByteArray := prog_11_method_8_code
def yX9_writeHeld : MethodName := ⟨RX9, "writeHeld", "()I"⟩
abbrev cX9_readHeld : ByteArray := prog_11_method_9_code
def yX9_readHeld : MethodName := ⟨RX9, "readHeld", "()I"⟩
abbrev cX9_isFree : ByteArray := prog_11_method_10_code
def yX9_isFree : MethodName := ⟨RX9, "isFree", "(III)Z"⟩
abbrev cX9_mayBe : ByteArray := prog_11_method_11_code
def yX9_mayBe : MethodName := ⟨RX9, "mayBe", "(III)Z"⟩
abbrev cX9_mayAny : ByteArray := prog_11_method_12_code
def yX9_mayAny : MethodName := ⟨RX9, "mayAny", "(II)Z"⟩
abbrev cX9_go : ByteArray := prog_11_method_13_code
def yX9_go : MethodName := ⟨RX9, "go", "(III)V"⟩
abbrev cX9_many : ByteArray := prog_11_method_14_code
def yX9_many : MethodName := ⟨RX9, "many", "(I)I"⟩
abbrev cX9_threadAt : ByteArray := prog_11_method_15_code
def yX9_threadAt : MethodName := ⟨RX9, "threadAt", "(II)I"⟩
abbrev cX9_signAt : ByteArray := prog_11_method_16_code
def yX9_signAt : MethodName := ⟨RX9, "signAt", "(II)I"⟩
abbrev cX9_aboutAt : ByteArray := prog_11_method_17_code
def yX9_aboutAt : MethodName := ⟨RX9, "aboutAt", "(II)I"⟩
abbrev cX9_isTouch : ByteArray := prog_11_method_18_code
def yX9_isTouch : MethodName := ⟨RX9, "isTouch", "(II)Z"⟩
abbrev cX9_isTouchOf : ByteArray := prog_11_method_19_code
def yX9_isTouchOf : MethodName := ⟨RX9, "isTouchOf", "(III)Z"⟩
abbrev cX9_isTrace : ByteArray := prog_11_method_20_code
def yX9_isTrace : MethodName := ⟨RX9, "isTrace", "(I)Z"⟩
abbrev cX9_dropOn : ByteArray := prog_11_method_21_code
def yX9_dropOn : MethodName := ⟨RX9, "dropOn", "(II)V"⟩
abbrev cX9_swapOn : ByteArray := prog_11_method_22_code
def yX9_swapOn : MethodName := ⟨RX9, "swapOn", "(II)V"⟩
abbrev cX9_lay : ByteArray := prog_11_method_23_code
def yX9_lay : MethodName := ⟨RX9, "lay", "(II)V"⟩
abbrev cX9_write : ByteArray := prog_11_method_24_code
def yX9_write : MethodName := ⟨RX9, "write", "(I)I"⟩
abbrev cX9_wipe : ByteArray := prog_11_method_25_code
def yX9_wipe : MethodName := ⟨RX9, "wipe", "()I"⟩
abbrev cX9_signOf : ByteArray := prog_11_method_26_code
def yX9_signOf : MethodName := ⟨RX9, "signOf", "(I)I"⟩
abbrev cX9_aboutBy : ByteArray := prog_11_method_27_code
def yX9_aboutBy : MethodName := ⟨RX9, "aboutBy", "(II)I"⟩
abbrev cX9_readText : ByteArray := prog_11_method_28_code
def yX9_readText : MethodName := ⟨RX9, "readText", "()I"⟩
abbrev cX9_fault : ByteArray := prog_11_method_29_code
def yX9_fault : MethodName := ⟨RX9, "fault", "()I"⟩
abbrev cX9_trace : ByteArray := prog_11_method_30_code
def yX9_trace : MethodName := ⟨RX9, "trace", "()I"⟩
abbrev cX9_findHeld : ByteArray := prog_11_method_31_code
def yX9_findHeld : MethodName := ⟨RX9, "findHeld", "(I)V"⟩
abbrev cX9_isStep : ByteArray := prog_11_method_32_code
def yX9_isStep : MethodName := ⟨RX9, "isStep", "(II)Z"⟩
abbrev cX9_letterOf : ByteArray := prog_11_method_33_code
def yX9_letterOf : MethodName := ⟨RX9, "letterOf", "(I)I"⟩
abbrev cX9_step : ByteArray := prog_11_method_34_code
def yX9_step : MethodName := ⟨RX9, "step", "(II)I"⟩
abbrev cX9_keepAct : ByteArray := prog_11_method_35_code
def yX9_keepAct : MethodName := ⟨RX9, "keepAct", "()V"⟩
abbrev cX9_takeTrial : ByteArray := prog_11_method_36_code
def yX9_takeTrial : MethodName := ⟨RX9, "takeTrial", "()Z"⟩
abbrev cX9_drop : ByteArray := prog_11_method_37_code
def yX9_drop : MethodName := ⟨RX9, "drop", "(I)I"⟩
abbrev cX9_swap : ByteArray := prog_11_method_38_code
def yX9_swap : MethodName := ⟨RX9, "swap", "(I)I"⟩
abbrev cX9_undo : ByteArray := prog_11_method_39_code
def yX9_undo : MethodName := ⟨RX9, "undo", "()I"⟩
abbrev cX9_guardsOf : ByteArray := prog_11_method_40_code
def yX9_guardsOf : MethodName := ⟨RX9, "guardsOf", "(II)I"⟩
abbrev cX9_watch : ByteArray := prog_11_method_41_code
def yX9_watch : MethodName := ⟨RX9, "watch", "(III)V"⟩
abbrev cX9_watchCell : ByteArray := prog_11_method_42_code
def yX9_watchCell : MethodName := ⟨RX9, "watchCell", "(IIIII)V"⟩
abbrev cX9_isFour : ByteArray := prog_11_method_43_code
def yX9_isFour : MethodName := ⟨RX9, "isFour", "(I)Z"⟩
abbrev cX9_cell : ByteArray := prog_11_method_44_code
def yX9_cell : MethodName := ⟨RX9, "cell", "(III)I"⟩
abbrev cX9_flaggedOn : ByteArray := prog_11_method_45_code
def yX9_flaggedOn : MethodName := ⟨RX9, "flaggedOn", "(II)I"⟩
abbrev cX9_allBefore : ByteArray := prog_11_method_46_code
def yX9_allBefore : MethodName := ⟨RX9, "allBefore", "(III)I"⟩
abbrev cX9_findBefore : ByteArray := prog_11_method_47_code
def yX9_findBefore : MethodName := ⟨RX9, "findBefore", "(I)V"⟩
abbrev cX9_ahead : ByteArray := prog_11_method_48_code
def yX9_ahead : MethodName := ⟨RX9, "ahead", "(II)I"⟩
abbrev cX9_areMeeting : ByteArray := prog_11_method_49_code
def yX9_areMeeting : MethodName := ⟨RX9, "areMeeting", "(II)Z"⟩
abbrev cX9_meetingsOf : ByteArray := prog_11_method_50_code
def yX9_meetingsOf : MethodName := ⟨RX9, "meetingsOf", "(I)I"⟩
abbrev cX9_meetings : ByteArray := prog_11_method_51_code
def yX9_meetings : MethodName := ⟨RX9, "meetings", "(II)I"⟩
abbrev cX9_findEdges : ByteArray := prog_11_method_52_code
def yX9_findEdges : MethodName := ⟨RX9, "findEdges", "(I)V"⟩
abbrev cX9_edges : ByteArray := prog_11_method_53_code
def yX9_edges : MethodName := ⟨RX9, "edges", "(I)I"⟩
abbrev cX9_follows : ByteArray := prog_11_method_54_code
def yX9_follows : MethodName := ⟨RX9, "follows", "(II)Z"⟩
abbrev cX9_isUnlike : ByteArray := prog_11_method_55_code
def yX9_isUnlike : MethodName := ⟨RX9, "isUnlike", "(II)Z"⟩
abbrev cX9_areGated : ByteArray := prog_11_method_56_code
def yX9_areGated : MethodName := ⟨RX9, "areGated", "(II)Z"⟩
abbrev cX9_takeRing : ByteArray := prog_11_method_57_code
def yX9_takeRing : MethodName := ⟨RX9, "takeRing", "(I)V"⟩
abbrev cX9_close : ByteArray := prog_11_method_58_code
def yX9_close : MethodName := ⟨RX9, "close", "(I)V"⟩
abbrev cX9_goesOn : ByteArray := prog_11_method_59_code
def yX9_goesOn : MethodName := ⟨RX9, "goesOn", "(II)Z"⟩
abbrev cX9_findRings : ByteArray := prog_11_method_60_code
def yX9_findRings : MethodName := ⟨RX9, "findRings", "(I)V"⟩
abbrev cX9_findLonger : ByteArray := prog_11_method_61_code
def yX9_findLonger : MethodName := ⟨RX9, "findLonger", "()V"⟩
abbrev cX9_rings : ByteArray := prog_11_method_62_code
def yX9_rings : MethodName := ⟨RX9, "rings", "(II)I"⟩
abbrev cX9_first : ByteArray := prog_11_method_63_code
def yX9_first : MethodName := ⟨RX9, "first", "()I"⟩
abbrev cX9_feasibleOn : ByteArray := prog_11_method_64_code
def yX9_feasibleOn : MethodName := ⟨RX9, "feasibleOn", "(I)I"⟩
abbrev cX9_isSo : ByteArray := prog_11_method_65_code
def yX9_isSo : MethodName := ⟨RX9, "isSo", "(III)Z"⟩
abbrev cX9_tryThing : ByteArray := prog_11_method_66_code
def yX9_tryThing : MethodName := ⟨RX9, "tryThing", "(III)Z"⟩
abbrev cX9_tenThousandTo : ByteArray := prog_11_method_67_code
def yX9_tenThousandTo : MethodName := ⟨RX9, "tenThousandTo", "(I)J"⟩
abbrev cX9_judge : ByteArray := prog_11_method_68_code
def yX9_judge : MethodName := ⟨RX9, "judge", "(IJ)I"⟩
abbrev cX9_see : ByteArray := prog_11_method_69_code
def yX9_see : MethodName := ⟨RX9, "see", "(III)I"⟩
abbrev cX9_unsee : ByteArray := prog_11_method_70_code
def yX9_unsee : MethodName := ⟨RX9, "unsee", "()I"⟩
abbrev cX9_which : ByteArray := prog_11_method_71_code
def yX9_which : MethodName := ⟨RX9, "which", "(I)I"⟩
abbrev cX9_factorial : ByteArray := prog_11_method_72_code
def yX9_factorial : MethodName := ⟨RX9, "factorial", "(I)I"⟩
abbrev cX9_common : ByteArray := prog_11_method_73_code
def yX9_common : MethodName := ⟨RX9, "common", "(II)I"⟩
abbrev cX9_share : ByteArray := prog_11_method_74_code
def yX9_share : MethodName := ⟨RX9, "share", "(IZ)I"⟩
abbrev cX9_lost : ByteArray := prog_11_method_75_code
def yX9_lost : MethodName := ⟨RX9, "lost", "(IIZ)I"⟩
abbrev cX9_seed : ByteArray := prog_11_method_76_code
def yX9_seed : MethodName := ⟨RX9, "seed", "(J)J"⟩
abbrev cX9_drawn : ByteArray := prog_11_method_77_code
def yX9_drawn : MethodName := ⟨RX9, "drawn", "(I)I"⟩
abbrev cX9_keep : ByteArray := prog_11_method_78_code
def yX9_keep : MethodName := ⟨RX9, "keep", "(I)I"⟩
abbrev cX9_again : ByteArray := prog_11_method_79_code
def yX9_again : MethodName := ⟨RX9, "again", "(I)I"⟩
abbrev cX9_meetingCells : ByteArray := prog_11_method_80_code
def yX9_meetingCells : MethodName := ⟨RX9, "meetingCells", "()I"⟩
abbrev cX9_count : ByteArray := prog_11_method_81_code
def yX9_count : MethodName := ⟨RX9, "count", "(I)I"⟩
def RJ6 : String := "java/lang/Integer"
def TJ6 : u_T := fun k => match k with
  | _ => ("", "", "", false)
def tyJ6 : Nat → FieldType := fun k => match k with
  | _ => .int
abbrev wsJ60 : List Cond := u_ws RJ6 TJ6 0
theorem nmJ6 : ∀ a, a < 0 → ∀ b, b < 0 → a ≠ b → (TJ6 a).2.1 ≠ (TJ6 b).2.1 := by decide +kernel
theorem tyJ6_ok : ∀ k, k < 0 → parseFieldDescriptor (TJ6 k).2.2.1 = some (tyJ6 k) := by decide +kernel
abbrev cJ6_bitCount_0f7a4 : ByteArray := prog_12_method_49_code
def yJ6_bitCount_0f7a4 : MethodName := ⟨RJ6, "bitCount", "(I)I"⟩
def RJ9 : String := "java/lang/Math"
def TJ9 : u_T := fun k => match k with
  | _ => ("", "", "", false)
def tyJ9 : Nat → FieldType := fun k => match k with
  | _ => .int
abbrev wsJ90 : List Cond := u_ws RJ9 TJ9 0
theorem nmJ9 : ∀ a, a < 0 → ∀ b, b < 0 → a ≠ b → (TJ9 a).2.1 ≠ (TJ9 b).2.1 := by decide +kernel
theorem tyJ9_ok : ∀ k, k < 0 → parseFieldDescriptor (TJ9 k).2.2.1 = some (tyJ9 k) := by decide +kernel
abbrev cJ9_max_7cf53 : ByteArray := prog_13_method_65_code
def yJ9_max_7cf53 : MethodName := ⟨RJ9, "max", "(II)I"⟩
abbrev cJ9_min_7cf53 : ByteArray := prog_13_method_69_code
def yJ9_min_7cf53 : MethodName := ⟨RJ9, "min", "(II)I"⟩
def RJ10 : String := "java/lang/System"
def TJ10 : u_T := fun k => match k with
  | _ => ("", "", "", false)
def tyJ10 : Nat → FieldType := fun k => match k with
  | _ => .int
abbrev wsJ100 : List Cond := u_ws RJ10 TJ10 0
theorem nmJ10 : ∀ a, a < 0 → ∀ b, b < 0 → a ≠ b → (TJ10 a).2.1 ≠ (TJ10 b).2.1 := by decide +kernel
theorem tyJ10_ok : ∀ k, k < 0 → parseFieldDescriptor (TJ10 k).2.2.1 = some (tyJ10 k) := by decide +kernel
def RJ7 : String := "java/util/Arrays"
def TJ7 : u_T := fun k => match k with
  | _ => ("", "", "", false)
def tyJ7 : Nat → FieldType := fun k => match k with
  | _ => .int
abbrev wsJ70 : List Cond := u_ws RJ7 TJ7 0
theorem nmJ7 : ∀ a, a < 0 → ∀ b, b < 0 → a ≠ b → (TJ7 a).2.1 ≠ (TJ7 b).2.1 := by decide +kernel
theorem tyJ7_ok : ∀ k, k < 0 → parseFieldDescriptor (TJ7 k).2.2.1 = some (tyJ7 k) := by decide +kernel
abbrev cJ7_fill_d0a16 : ByteArray := prog_15_method_101_code
def yJ7_fill_d0a16 : MethodName := ⟨RJ7, "fill", "([JJ)V"⟩
abbrev cJ7_fill_53178 : ByteArray := prog_15_method_103_code
def yJ7_fill_53178 : MethodName := ⟨RJ7, "fill", "([II)V"⟩
def RL : String := "LockWatchLaw"
abbrev cL_law : ByteArray := code
def yL_law : MethodName := ⟨RL, "law", "([I)Z"⟩
abbrev vwCl : List vw_C := [(RX0, TX0, 3), (RX2, TX2, 3), (RX3, TX3, 7), (RX4, TX4, 9), (RX5, TX5, 4), (RX6, TX6, 2), (RX7, TX7, 4), (RX8, TX8, 10), (RX9, TX9, 39)]
def wsG : List Cond := lw_tbl.filter goodWord
end
section
theorem mt_1 : ∀ w ∈ tables_1_1, w ∈ lw_tbl := fun _ h => List.mem_append_right _ (List.mem_append_left _ h)
theorem mt_2 : ∀ w ∈ tables_1_2, w ∈ lw_tbl := fun _ h => List.mem_append_right _ (List.mem_append_right _ (List.mem_append_left _ h))
theorem mt_3 : ∀ w ∈ tables_1_3, w ∈ lw_tbl := fun _ h => List.mem_append_right _ (List.mem_append_right _ (List.mem_append_right _ (List.mem_append_left _ h)))
theorem mt_4 : ∀ w ∈ tables_1_4, w ∈ lw_tbl := fun _ h => List.mem_append_right _ (List.mem_append_right _ (List.mem_append_right _ (List.mem_append_right _ (List.mem_append_left _ h))))
theorem mt_5 : ∀ w ∈ tables_1_5, w ∈ lw_tbl := fun _ h => List.mem_append_right _ (List.mem_append_right _ (List.mem_append_right _ (List.mem_append_right _ (List.mem_append_right _ (h)))))
theorem mp_1 : ∀ q ∈ lw_privs_1, Cond.selects q.1.cls q.1 q.1 ∈ lw_tbl := fun _ h => List.mem_append_left _ (List.mem_map_of_mem (List.mem_append_left _ h))
theorem mp_2 : ∀ q ∈ lw_privs_2, Cond.selects q.1.cls q.1 q.1 ∈ lw_tbl := fun _ h => List.mem_append_left _ (List.mem_map_of_mem (List.mem_append_right _ (List.mem_append_left _ h)))
theorem mp_3 : ∀ q ∈ lw_privs_3, Cond.selects q.1.cls q.1 q.1 ∈ lw_tbl := fun _ h => List.mem_append_left _ (List.mem_map_of_mem (List.mem_append_right _ (List.mem_append_right _ (List.mem_append_left _ h))))
theorem mp_4 : ∀ q ∈ lw_privs_4, Cond.selects q.1.cls q.1 q.1 ∈ lw_tbl := fun _ h => List.mem_append_left _ (List.mem_map_of_mem (List.mem_append_right _ (List.mem_append_right _ (List.mem_append_right _ (h)))))
theorem mg {w : Cond} (h : w ∈ lw_tbl) (g : goodWord w = true) : w ∈ wsG := List.mem_filter.mpr ⟨h, g⟩
theorem nq_0 : Cond.classLink RL 7 RX8 ∈ wsG := mg (mt_1 _ (List.mem_of_getElem? (i := 15) rfl)) rfl
theorem nq_1 : Cond.instantiable RX8 10 ∈ wsG := mg (mt_1 _ (List.mem_of_getElem? (i := 16) rfl)) rfl
theorem nq_2 : Cond.initialized RX8 ∈ wsG := mg (mt_1 _ (List.mem_of_getElem? (i := 1) rfl)) rfl
theorem nq_3 : Cond.classLink RL 10 RX9 ∈ wsG := mg (mt_3 _ (List.mem_of_getElem? (i := 162) rfl)) rfl
theorem nq_4 : Cond.instantiable RX9 39 ∈ wsG := mg (mt_3 _ (List.mem_of_getElem? (i := 163) rfl)) rfl
theorem nq_5 : Cond.initialized RX9 ∈ wsG := mg (mt_1 _ (List.mem_of_getElem? (i := 10) rfl)) rfl
theorem nq_6 : Cond.constantLong RL 73 (4294967295) ∈ wsG := mg (mt_5 _ (List.mem_of_getElem? (i := 124) rfl)) rfl
theorem nq_7 : Cond.methodLink RL 9 yX8_init ∈ wsG := mg (mt_1 _ (List.mem_of_getElem? (i := 17) rfl)) rfl
theorem nq_8 : Cond.instanceMethod yX8_init ∈ wsG := mg (mt_1 _ (List.mem_of_getElem? (i := 18) rfl)) rfl
theorem nq_9 : Cond.code yX8_init cX8_init 2 none ∈ wsG := mg (mt_1 _ (List.mem_of_getElem? (i := 19) rfl)) rfl
theorem nq_10 : Cond.methodLink RX8 1 objectInit ∈ wsG := mg (mt_1 _ (List.mem_of_getElem? (i := 20) rfl)) rfl
theorem nq_11 : Cond.instanceMethod objectInit ∈ wsG := mg (mt_1 _ (List.mem_of_getElem? (i := 21) rfl)) rfl
theorem nq_12 : Cond.code objectInit ⟨#[0xb1]⟩ 1 none ∈ wsG := mg (mt_1 _ (List.mem_of_getElem? (i := 22) rfl)) rfl
theorem nq_13 : Cond.classLink RX8 7 RX6 ∈ wsG := mg (mt_1 _ (List.mem_of_getElem? (i := 23) rfl)) rfl
theorem nq_14 : Cond.instantiable RX6 2 ∈ wsG := mg (mt_1 _ (List.mem_of_getElem? (i := 24) rfl)) rfl
theorem nq_15 : Cond.initialized RX6 ∈ wsG := mg (mt_1 _ (List.mem_of_getElem? (i := 2) rfl)) rfl
theorem nq_16 : Cond.fieldLink RX8 10 "LockWatch" "text" "LLockWatch$Text;" ∈ wsG := mg (mt_1 _ (List.mem_of_getElem? (i := 210) rfl)) rfl
theorem nq_17 : Cond.classLink RX8 16 RX4 ∈ wsG := mg (mt_1 _ (List.mem_of_getElem? (i := 38) rfl)) rfl
theorem nq_18 : Cond.instantiable RX4 9 ∈ wsG := mg (mt_1 _ (List.mem_of_getElem? (i := 39) rfl)) rfl
theorem nq_19 : Cond.initialized RX4 ∈ wsG := mg (mt_1 _ (List.mem_of_getElem? (i := 3) rfl)) rfl
theorem nq_20 : Cond.fieldLink RX8 19 "LockWatch" "steps" "LLockWatch$Row;" ∈ wsG := mg (mt_1 _ (List.mem_of_getElem? (i := 211) rfl)) rfl
theorem nq_21 : Cond.fieldLink RX8 23 "LockWatch" "trial" "LLockWatch$Row;" ∈ wsG := mg (mt_1 _ (List.mem_of_getElem? (i := 212) rfl)) rfl
theorem nq_22 : Cond.fieldLink RX8 26 "LockWatch" "kept" "[LLockWatch$Row;" ∈ wsG := mg (mt_1 _ (List.mem_of_getElem? (i := 213) rfl)) rfl
theorem nq_23 : Cond.arrayClass .boolean ∈ wsG := mg (mt_1 _ (List.mem_of_getElem? (i := 140) rfl)) rfl
theorem nq_24 : Cond.fieldLink RX8 30 "LockWatch" "isKept" "[Z" ∈ wsG := mg (mt_1 _ (List.mem_of_getElem? (i := 214) rfl)) rfl
theorem nq_25 : Cond.classLink RX8 34 RX0 ∈ wsG := mg (mt_1 _ (List.mem_of_getElem? (i := 123) rfl)) rfl
theorem nq_26 : Cond.instantiable RX0 3 ∈ wsG := mg (mt_1 _ (List.mem_of_getElem? (i := 124) rfl)) rfl
theorem nq_27 : Cond.initialized RX0 ∈ wsG := mg (mt_1 _ (List.mem_of_getElem? (i := 6) rfl)) rfl
theorem nq_28 : Cond.fieldLink RX8 37 "LockWatch" "acts" "LLockWatch$Acts;" ∈ wsG := mg (mt_1 _ (List.mem_of_getElem? (i := 215) rfl)) rfl
theorem nq_29 : Cond.classLink RX8 41 RX5 ∈ wsG := mg (mt_1 _ (List.mem_of_getElem? (i := 141) rfl)) rfl
theorem nq_30 : Cond.instantiable RX5 4 ∈ wsG := mg (mt_1 _ (List.mem_of_getElem? (i := 142) rfl)) rfl
theorem nq_31 : Cond.initialized RX5 ∈ wsG := mg (mt_1 _ (List.mem_of_getElem? (i := 7) rfl)) rfl
theorem nq_32 : Cond.fieldLink RX8 44 "LockWatch" "seen" "LLockWatch$Seen;" ∈ wsG := mg (mt_1 _ (List.mem_of_getElem? (i := 216) rfl)) rfl
theorem nq_33 : Cond.classLink RX8 48 RX3 ∈ wsG := mg (mt_1 _ (List.mem_of_getElem? (i := 161) rfl)) rfl
theorem nq_34 : Cond.instantiable RX3 7 ∈ wsG := mg (mt_1 _ (List.mem_of_getElem? (i := 162) rfl)) rfl
theorem nq_35 : Cond.initialized RX3 ∈ wsG := mg (mt_1 _ (List.mem_of_getElem? (i := 8) rfl)) rfl
theorem nq_36 : Cond.fieldLink RX8 51 "LockWatch" "ringsFound" "LLockWatch$Rings;" ∈ wsG := mg (mt_1 _ (List.mem_of_getElem? (i := 217) rfl)) rfl
theorem nq_37 : Cond.classLink RX8 55 RX2 ∈ wsG := mg (mt_1 _ (List.mem_of_getElem? (i := 192) rfl)) rfl
theorem nq_38 : Cond.instantiable RX2 3 ∈ wsG := mg (mt_1 _ (List.mem_of_getElem? (i := 193) rfl)) rfl
theorem nq_39 : Cond.initialized RX2 ∈ wsG := mg (mt_1 _ (List.mem_of_getElem? (i := 9) rfl)) rfl
theorem nq_40 : Cond.fieldLink RX8 58 "LockWatch" "chances" "LLockWatch$Chances;" ∈ wsG := mg (mt_1 _ (List.mem_of_getElem? (i := 218) rfl)) rfl
theorem nq_41 : Cond.fieldLink RX8 62 "LockWatch" "theSeed" "J" ∈ wsG := mg (mt_1 _ (List.mem_of_getElem? (i := 219) rfl)) rfl
theorem nq_42 : Cond.methodLink RX8 9 yX6_init ∈ wsG := mg (mt_1 _ (List.mem_of_getElem? (i := 25) rfl)) rfl
theorem nq_43 : Cond.instanceMethod yX6_init ∈ wsG := mg (mt_1 _ (List.mem_of_getElem? (i := 26) rfl)) rfl
theorem nq_44 : Cond.code yX6_init cX6_init 1 none ∈ wsG := mg (mt_1 _ (List.mem_of_getElem? (i := 27) rfl)) rfl
theorem nq_45 : Cond.methodLink RX6 3 objectInit ∈ wsG := mg (mt_1 _ (List.mem_of_getElem? (i := 28) rfl)) rfl
theorem nq_46 : Cond.arrayClass .int ∈ wsG := mg (mt_1 _ (List.mem_of_getElem? (i := 37) rfl)) rfl
theorem nq_47 : Cond.fieldLink RX6 9 "LockWatch$Text" "letters" "[I" ∈ wsG := mg (mt_1 _ (List.mem_of_getElem? (i := 31) rfl)) rfl
theorem nq_48 : Cond.methodLink RX8 18 yX4_init ∈ wsG := mg (mt_1 _ (List.mem_of_getElem? (i := 40) rfl)) rfl
theorem nq_49 : Cond.instanceMethod yX4_init ∈ wsG := mg (mt_1 _ (List.mem_of_getElem? (i := 41) rfl)) rfl
theorem nq_50 : Cond.code yX4_init cX4_init 1 none ∈ wsG := mg (mt_1 _ (List.mem_of_getElem? (i := 42) rfl)) rfl
theorem nq_51 : Cond.methodLink RX4 3 objectInit ∈ wsG := mg (mt_1 _ (List.mem_of_getElem? (i := 43) rfl)) rfl
theorem nq_52 : Cond.fieldLink RX4 9 "LockWatch$Row" "code" "[I" ∈ wsG := mg (mt_1 _ (List.mem_of_getElem? (i := 87) rfl)) rfl
theorem nq_53 : Cond.fieldLink RX4 15 "LockWatch$Row" "heldToWrite" "[I" ∈ wsG := mg (mt_1 _ (List.mem_of_getElem? (i := 89) rfl)) rfl
theorem nq_54 : Cond.fieldLink RX4 18 "LockWatch$Row" "heldToRead" "[I" ∈ wsG := mg (mt_1 _ (List.mem_of_getElem? (i := 92) rfl)) rfl
theorem nq_55 : Cond.fieldLink RX4 21 "LockWatch$Row" "guards" "[I" ∈ wsG := mg (mt_1 _ (List.mem_of_getElem? (i := 95) rfl)) rfl
theorem nq_56 : Cond.fieldLink RX4 24 "LockWatch$Row" "before" "[I" ∈ wsG := mg (mt_1 _ (List.mem_of_getElem? (i := 97) rfl)) rfl
theorem nq_57 : Cond.fieldLink RX4 27 "LockWatch$Row" "past" "[I" ∈ wsG := mg (mt_1 _ (List.mem_of_getElem? (i := 98) rfl)) rfl
theorem nq_58 : Cond.classLink RX4 30 RX7 ∈ wsG := mg (mt_1 _ (List.mem_of_getElem? (i := 44) rfl)) rfl
theorem nq_59 : Cond.instantiable RX7 4 ∈ wsG := mg (mt_1 _ (List.mem_of_getElem? (i := 45) rfl)) rfl
theorem nq_60 : Cond.initialized RX7 ∈ wsG := mg (mt_1 _ (List.mem_of_getElem? (i := 4) rfl)) rfl
theorem nq_61 : Cond.fieldLink RX4 33 "LockWatch$Row" "world" "LLockWatch$World;" ∈ wsG := mg (mt_1 _ (List.mem_of_getElem? (i := 100) rfl)) rfl
theorem nq_62 : Cond.methodLink RX4 32 yX7_init ∈ wsG := mg (mt_1 _ (List.mem_of_getElem? (i := 46) rfl)) rfl
theorem nq_63 : Cond.instanceMethod yX7_init ∈ wsG := mg (mt_1 _ (List.mem_of_getElem? (i := 47) rfl)) rfl
theorem nq_64 : Cond.code yX7_init cX7_init 1 none ∈ wsG := mg (mt_1 _ (List.mem_of_getElem? (i := 48) rfl)) rfl
theorem nq_65 : Cond.methodLink RX7 3 objectInit ∈ wsG := mg (mt_1 _ (List.mem_of_getElem? (i := 49) rfl)) rfl
theorem nq_66 : Cond.fieldLink RX7 9 "LockWatch$World" "toWrite" "[I" ∈ wsG := mg (mt_1 _ (List.mem_of_getElem? (i := 61) rfl)) rfl
theorem nq_67 : Cond.fieldLink RX7 15 "LockWatch$World" "toRead" "[I" ∈ wsG := mg (mt_1 _ (List.mem_of_getElem? (i := 63) rfl)) rfl
theorem nq_68 : Cond.methodLink RX7 18 yX7_begin ∈ wsG := mg (mt_1 _ (List.mem_of_getElem? (i := 50) rfl)) rfl
theorem nq_69 : Cond.instanceMethod yX7_begin ∈ wsG := mg (mt_1 _ (List.mem_of_getElem? (i := 51) rfl)) rfl
theorem nq_70 : Cond.selects RX7 yX7_begin yX7_begin ∈ wsG := mg (mt_1 _ (List.mem_of_getElem? (i := 52) rfl)) rfl
theorem nq_71 : Cond.code yX7_begin cX7_begin 1 none ∈ wsG := mg (mt_1 _ (List.mem_of_getElem? (i := 53) rfl)) rfl
theorem nq_72 : Cond.fieldLink RX7 21 "LockWatch$World" "started" "I" ∈ wsG := mg (mt_1 _ (List.mem_of_getElem? (i := 57) rfl)) rfl
theorem nq_73 : Cond.fieldLink RX7 25 "LockWatch$World" "ended" "I" ∈ wsG := mg (mt_1 _ (List.mem_of_getElem? (i := 59) rfl)) rfl
theorem nq_74 : Cond.methodLink RX7 28 yJ7_fill_53178 ∈ wsG := mg (mt_1 _ (List.mem_of_getElem? (i := 54) rfl)) rfl
theorem nq_75 : Cond.static yJ7_fill_53178 ∈ wsG := mg (mt_1 _ (List.mem_of_getElem? (i := 55) rfl)) rfl
theorem nq_76 : Cond.initialized RJ7 ∈ wsG := mg (mt_1 _ (List.mem_of_getElem? (i := 5) rfl)) rfl
theorem nq_77 : Cond.code yJ7_fill_53178 cJ7_fill_53178 4 none ∈ wsG := mg (mt_1 _ (List.mem_of_getElem? (i := 56) rfl)) rfl
theorem nq_78 : Cond.methodLink RX4 37 yX4_begin ∈ wsG := mg (mt_1 _ (List.mem_of_getElem? (i := 74) rfl)) rfl
theorem nq_79 : Cond.instanceMethod yX4_begin ∈ wsG := mg (mt_1 _ (List.mem_of_getElem? (i := 75) rfl)) rfl
theorem nq_80 : Cond.selects RX4 yX4_begin yX4_begin ∈ wsG := mg (mt_1 _ (List.mem_of_getElem? (i := 76) rfl)) rfl
theorem nq_81 : Cond.code yX4_begin cX4_begin 1 none ∈ wsG := mg (mt_1 _ (List.mem_of_getElem? (i := 77) rfl)) rfl
theorem nq_82 : Cond.fieldLink RX4 40 "LockWatch$Row" "size" "I" ∈ wsG := mg (mt_1 _ (List.mem_of_getElem? (i := 80) rfl)) rfl
theorem nq_83 : Cond.fieldLink RX4 44 "LockWatch$Row" "acted" "I" ∈ wsG := mg (mt_1 _ (List.mem_of_getElem? (i := 99) rfl)) rfl
theorem nq_84 : Cond.methodLink RX4 47 yJ7_fill_53178 ∈ wsG := mg (mt_1 _ (List.mem_of_getElem? (i := 78) rfl)) rfl
theorem nq_85 : Cond.methodLink RX4 53 yX7_begin ∈ wsG := mg (mt_1 _ (List.mem_of_getElem? (i := 79) rfl)) rfl
theorem nq_86 : Cond.methodLink RX8 36 yX0_init ∈ wsG := mg (mt_1 _ (List.mem_of_getElem? (i := 125) rfl)) rfl
theorem nq_87 : Cond.instanceMethod yX0_init ∈ wsG := mg (mt_1 _ (List.mem_of_getElem? (i := 126) rfl)) rfl
theorem nq_88 : Cond.code yX0_init cX0_init 1 none ∈ wsG := mg (mt_1 _ (List.mem_of_getElem? (i := 127) rfl)) rfl
theorem nq_89 : Cond.methodLink RX0 3 objectInit ∈ wsG := mg (mt_1 _ (List.mem_of_getElem? (i := 128) rfl)) rfl
theorem nq_90 : Cond.fieldLink RX0 9 "LockWatch$Acts" "place" "[I" ∈ wsG := mg (mt_1 _ (List.mem_of_getElem? (i := 131) rfl)) rfl
theorem nq_91 : Cond.fieldLink RX0 15 "LockWatch$Acts" "gone" "[I" ∈ wsG := mg (mt_1 _ (List.mem_of_getElem? (i := 132) rfl)) rfl
theorem nq_92 : Cond.methodLink RX8 43 yX5_init ∈ wsG := mg (mt_1 _ (List.mem_of_getElem? (i := 143) rfl)) rfl
theorem nq_93 : Cond.instanceMethod yX5_init ∈ wsG := mg (mt_1 _ (List.mem_of_getElem? (i := 144) rfl)) rfl
theorem nq_94 : Cond.code yX5_init cX5_init 1 none ∈ wsG := mg (mt_1 _ (List.mem_of_getElem? (i := 145) rfl)) rfl
theorem nq_95 : Cond.methodLink RX5 3 objectInit ∈ wsG := mg (mt_1 _ (List.mem_of_getElem? (i := 146) rfl)) rfl
theorem nq_96 : Cond.fieldLink RX5 9 "LockWatch$Seen" "cell" "[I" ∈ wsG := mg (mt_1 _ (List.mem_of_getElem? (i := 149) rfl)) rfl
theorem nq_97 : Cond.fieldLink RX5 15 "LockWatch$Seen" "state" "[I" ∈ wsG := mg (mt_1 _ (List.mem_of_getElem? (i := 150) rfl)) rfl
theorem nq_98 : Cond.fieldLink RX5 18 "LockWatch$Seen" "was" "[Z" ∈ wsG := mg (mt_1 _ (List.mem_of_getElem? (i := 151) rfl)) rfl
theorem nq_99 : Cond.methodLink RX8 50 yX3_init ∈ wsG := mg (mt_1 _ (List.mem_of_getElem? (i := 163) rfl)) rfl
theorem nq_100 : Cond.instanceMethod yX3_init ∈ wsG := mg (mt_1 _ (List.mem_of_getElem? (i := 164) rfl)) rfl
theorem nq_101 : Cond.code yX3_init cX3_init 1 none ∈ wsG := mg (mt_1 _ (List.mem_of_getElem? (i := 165) rfl)) rfl
theorem nq_102 : Cond.methodLink RX3 3 objectInit ∈ wsG := mg (mt_1 _ (List.mem_of_getElem? (i := 166) rfl)) rfl
theorem nq_103 : Cond.fieldLink RX3 11 "LockWatch$Rings" "at" "[I" ∈ wsG := mg (mt_1 _ (List.mem_of_getElem? (i := 169) rfl)) rfl
theorem nq_104 : Cond.fieldLink RX3 15 "LockWatch$Rings" "from" "[I" ∈ wsG := mg (mt_1 _ (List.mem_of_getElem? (i := 170) rfl)) rfl
theorem nq_105 : Cond.fieldLink RX3 18 "LockWatch$Rings" "to" "[I" ∈ wsG := mg (mt_1 _ (List.mem_of_getElem? (i := 171) rfl)) rfl
theorem nq_106 : Cond.fieldLink RX3 21 "LockWatch$Rings" "tally" "[I" ∈ wsG := mg (mt_1 _ (List.mem_of_getElem? (i := 172) rfl)) rfl
theorem nq_107 : Cond.fieldLink RX3 24 "LockWatch$Rings" "chain" "[I" ∈ wsG := mg (mt_1 _ (List.mem_of_getElem? (i := 176) rfl)) rfl
theorem nq_108 : Cond.fieldLink RX3 27 "LockWatch$Rings" "least" "I" ∈ wsG := mg (mt_1 _ (List.mem_of_getElem? (i := 174) rfl)) rfl
theorem nq_109 : Cond.methodLink RX8 57 yX2_init ∈ wsG := mg (mt_1 _ (List.mem_of_getElem? (i := 194) rfl)) rfl
theorem nq_110 : Cond.instanceMethod yX2_init ∈ wsG := mg (mt_1 _ (List.mem_of_getElem? (i := 195) rfl)) rfl
theorem nq_111 : Cond.code yX2_init cX2_init 1 none ∈ wsG := mg (mt_1 _ (List.mem_of_getElem? (i := 196) rfl)) rfl
theorem nq_112 : Cond.methodLink RX2 3 objectInit ∈ wsG := mg (mt_1 _ (List.mem_of_getElem? (i := 197) rfl)) rfl
theorem nq_113 : Cond.arrayClass .long ∈ wsG := mg (mt_1 _ (List.mem_of_getElem? (i := 209) rfl)) rfl
theorem nq_114 : Cond.fieldLink RX2 11 "LockWatch$Chances" "now" "[J" ∈ wsG := mg (mt_1 _ (List.mem_of_getElem? (i := 200) rfl)) rfl
theorem nq_115 : Cond.fieldLink RX2 17 "LockWatch$Chances" "next" "[J" ∈ wsG := mg (mt_1 _ (List.mem_of_getElem? (i := 201) rfl)) rfl
theorem nq_116 : Cond.fieldLink RX2 20 "LockWatch$Chances" "whole" "J" ∈ wsG := mg (mt_1 _ (List.mem_of_getElem? (i := 198) rfl)) rfl
theorem nq_117 : Cond.methodLink RL 12 yX9_init ∈ wsG := mg (mt_3 _ (List.mem_of_getElem? (i := 164) rfl)) rfl
theorem nq_118 : Cond.instanceMethod yX9_init ∈ wsG := mg (mt_3 _ (List.mem_of_getElem? (i := 165) rfl)) rfl
theorem nq_119 : Cond.code yX9_init cX9_init 1 none ∈ wsG := mg (mt_3 _ (List.mem_of_getElem? (i := 166) rfl)) rfl
theorem nq_120 : Cond.methodLink RX9 1 objectInit ∈ wsG := mg (mt_3 _ (List.mem_of_getElem? (i := 167) rfl)) rfl
theorem nq_121 : Cond.fieldLink RX9 7 "LockWatchModel" "writes" "[I" ∈ wsG := mg (mt_3 _ (List.mem_of_getElem? (i := 168) rfl)) rfl
theorem nq_122 : Cond.fieldLink RX9 13 "LockWatchModel" "reads" "[I" ∈ wsG := mg (mt_3 _ (List.mem_of_getElem? (i := 169) rfl)) rfl
theorem nq_123 : Cond.fieldLink RX9 16 "LockWatchModel" "now" "[I" ∈ wsG := mg (mt_3 _ (List.mem_of_getElem? (i := 172) rfl)) rfl
theorem nq_124 : Cond.fieldLink RX9 19 "LockWatchModel" "text" "[I" ∈ wsG := mg (mt_3 _ (List.mem_of_getElem? (i := 173) rfl)) rfl
theorem nq_125 : Cond.fieldLink RX9 22 "LockWatchModel" "readSteps" "[I" ∈ wsG := mg (mt_3 _ (List.mem_of_getElem? (i := 175) rfl)) rfl
theorem nq_126 : Cond.fieldLink RX9 25 "LockWatchModel" "heldToWrite" "[I" ∈ wsG := mg (mt_3 _ (List.mem_of_getElem? (i := 176) rfl)) rfl
theorem nq_127 : Cond.fieldLink RX9 28 "LockWatchModel" "heldToRead" "[I" ∈ wsG := mg (mt_3 _ (List.mem_of_getElem? (i := 177) rfl)) rfl
theorem nq_128 : Cond.fieldLink RX9 31 "LockWatchModel" "row" "[I" ∈ wsG := mg (mt_3 _ (List.mem_of_getElem? (i := 180) rfl)) rfl
theorem nq_129 : Cond.fieldLink RX9 34 "LockWatchModel" "before" "[I" ∈ wsG := mg (mt_3 _ (List.mem_of_getElem? (i := 186) rfl)) rfl
theorem nq_130 : Cond.fieldLink RX9 37 "LockWatchModel" "edgeStep" "[I" ∈ wsG := mg (mt_3 _ (List.mem_of_getElem? (i := 189) rfl)) rfl
theorem nq_131 : Cond.fieldLink RX9 40 "LockWatchModel" "edgeFrom" "[I" ∈ wsG := mg (mt_3 _ (List.mem_of_getElem? (i := 190) rfl)) rfl
theorem nq_132 : Cond.fieldLink RX9 43 "LockWatchModel" "edgeTo" "[I" ∈ wsG := mg (mt_3 _ (List.mem_of_getElem? (i := 191) rfl)) rfl
theorem nq_133 : Cond.fieldLink RX9 46 "LockWatchModel" "ring" "[I" ∈ wsG := mg (mt_3 _ (List.mem_of_getElem? (i := 193) rfl)) rfl
theorem nq_134 : Cond.fieldLink RX9 49 "LockWatchModel" "found" "[I" ∈ wsG := mg (mt_3 _ (List.mem_of_getElem? (i := 194) rfl)) rfl
theorem nq_135 : Cond.fieldLink RX9 52 "LockWatchModel" "gated" "[I" ∈ wsG := mg (mt_3 _ (List.mem_of_getElem? (i := 195) rfl)) rfl
theorem nq_136 : Cond.fieldLink RX9 55 "LockWatchModel" "ordered" "[I" ∈ wsG := mg (mt_3 _ (List.mem_of_getElem? (i := 196) rfl)) rfl
theorem nq_137 : Cond.fieldLink RX9 58 "LockWatchModel" "feasible" "[I" ∈ wsG := mg (mt_3 _ (List.mem_of_getElem? (i := 197) rfl)) rfl
theorem nq_138 : Cond.fieldLink RX9 61 "LockWatchModel" "aside" "[I" ∈ wsG := mg (mt_3 _ (List.mem_of_getElem? (i := 199) rfl)) rfl
theorem nq_139 : Cond.fieldLink RX9 64 "LockWatchModel" "seenCell" "[I" ∈ wsG := mg (mt_3 _ (List.mem_of_getElem? (i := 201) rfl)) rfl
theorem nq_140 : Cond.fieldLink RX9 67 "LockWatchModel" "seenState" "[I" ∈ wsG := mg (mt_3 _ (List.mem_of_getElem? (i := 202) rfl)) rfl
theorem nq_141 : Cond.fieldLink RX9 70 "LockWatchModel" "seenWas" "[I" ∈ wsG := mg (mt_3 _ (List.mem_of_getElem? (i := 203) rfl)) rfl
theorem nq_142 : Cond.fieldLink RX9 73 "LockWatchModel" "isKept" "[Z" ∈ wsG := mg (mt_3 _ (List.mem_of_getElem? (i := 205) rfl)) rfl
theorem nq_143 : Cond.fieldLink RX9 77 "LockWatchModel" "kept" "[I" ∈ wsG := mg (mt_3 _ (List.mem_of_getElem? (i := 206) rfl)) rfl
theorem nq_144 : Cond.methodLink RL 13 yX8_write ∈ wsG := mg (mt_2 _ (List.mem_of_getElem? (i := 1) rfl)) rfl
theorem nq_145 : Cond.instanceMethod yX8_write ∈ wsG := mg (mt_2 _ (List.mem_of_getElem? (i := 2) rfl)) rfl
theorem nq_146 : Cond.selects RX8 yX8_write yX8_write ∈ wsG := mg (mt_2 _ (List.mem_of_getElem? (i := 3) rfl)) rfl
theorem nq_147 : Cond.code yX8_write cX8_write 2 (some .int) ∈ wsG := mg (mt_2 _ (List.mem_of_getElem? (i := 4) rfl)) rfl
theorem nq_148 : Cond.methodLink RX8 66 yX6_put ∈ wsG := mg (mt_2 _ (List.mem_of_getElem? (i := 5) rfl)) rfl
theorem nq_149 : Cond.instanceMethod yX6_put ∈ wsG := mg (mt_2 _ (List.mem_of_getElem? (i := 6) rfl)) rfl
theorem nq_150 : Cond.selects RX6 yX6_put yX6_put ∈ wsG := mg (mt_2 _ (List.mem_of_getElem? (i := 7) rfl)) rfl
theorem nq_151 : Cond.code yX6_put cX6_put 2 (some .boolean) ∈ wsG := mg (mt_2 _ (List.mem_of_getElem? (i := 8) rfl)) rfl
theorem nq_152 : Cond.fieldLink RX6 15 "LockWatch$Text" "length" "I" ∈ wsG := mg (mt_1 _ (List.mem_of_getElem? (i := 29) rfl)) rfl
theorem nq_153 : Cond.methodLink RL 17 yX9_write ∈ wsG := mg (mt_4 _ (List.mem_of_getElem? (i := 46) rfl)) rfl
theorem nq_154 : Cond.instanceMethod yX9_write ∈ wsG := mg (mt_4 _ (List.mem_of_getElem? (i := 47) rfl)) rfl
theorem nq_155 : Cond.selects RX9 yX9_write yX9_write ∈ wsG := mg (mt_4 _ (List.mem_of_getElem? (i := 48) rfl)) rfl
theorem nq_156 : Cond.code yX9_write cX9_write 2 (some .int) ∈ wsG := mg (mt_4 _ (List.mem_of_getElem? (i := 49) rfl)) rfl
theorem nq_157 : Cond.constantLong RX9 139 (255) ∈ wsG := mg (mt_4 _ (List.mem_of_getElem? (i := 50) rfl)) rfl
theorem nq_158 : Cond.fieldLink RX9 141 "LockWatchModel" "length" "I" ∈ wsG := mg (mt_3 _ (List.mem_of_getElem? (i := 174) rfl)) rfl
theorem nq_159 : Cond.methodLink RX9 89 yX9_in ∈ wsG := mg (mt_4 _ (List.mem_of_getElem? (i := 51) rfl)) rfl
theorem nq_160 : Cond.static yX9_in ∈ wsG := mg (mt_4 _ (List.mem_of_getElem? (i := 52) rfl)) rfl
theorem nq_161 : Cond.code yX9_in cX9_in 6 (some .boolean) ∈ wsG := mg (mt_4 _ (List.mem_of_getElem? (i := 53) rfl)) rfl
theorem nq_162 : Cond.methodLink RL 18 yX8_wipe ∈ wsG := mg (mt_2 _ (List.mem_of_getElem? (i := 9) rfl)) rfl
theorem nq_163 : Cond.instanceMethod yX8_wipe ∈ wsG := mg (mt_2 _ (List.mem_of_getElem? (i := 10) rfl)) rfl
theorem nq_164 : Cond.selects RX8 yX8_wipe yX8_wipe ∈ wsG := mg (mt_2 _ (List.mem_of_getElem? (i := 11) rfl)) rfl
theorem nq_165 : Cond.code yX8_wipe cX8_wipe 2 (some .int) ∈ wsG := mg (mt_2 _ (List.mem_of_getElem? (i := 12) rfl)) rfl
theorem nq_166 : Cond.methodLink RL 22 yX9_wipe ∈ wsG := mg (mt_4 _ (List.mem_of_getElem? (i := 54) rfl)) rfl
theorem nq_167 : Cond.instanceMethod yX9_wipe ∈ wsG := mg (mt_4 _ (List.mem_of_getElem? (i := 55) rfl)) rfl
theorem nq_168 : Cond.selects RX9 yX9_wipe yX9_wipe ∈ wsG := mg (mt_4 _ (List.mem_of_getElem? (i := 56) rfl)) rfl
theorem nq_169 : Cond.code yX9_wipe cX9_wipe 2 (some .int) ∈ wsG := mg (mt_4 _ (List.mem_of_getElem? (i := 57) rfl)) rfl
theorem nq_170 : Cond.methodLink RL 23 yX8_fault ∈ wsG := mg (mt_2 _ (List.mem_of_getElem? (i := 13) rfl)) rfl
theorem nq_171 : Cond.instanceMethod yX8_fault ∈ wsG := mg (mt_2 _ (List.mem_of_getElem? (i := 14) rfl)) rfl
theorem nq_172 : Cond.selects RX8 yX8_fault yX8_fault ∈ wsG := mg (mt_2 _ (List.mem_of_getElem? (i := 15) rfl)) rfl
theorem nq_173 : Cond.code yX8_fault cX8_fault 1 (some .int) ∈ wsG := mg (mt_2 _ (List.mem_of_getElem? (i := 16) rfl)) rfl
theorem nq_174 : Cond.methodLink RX8 74 yX6_tell ∈ wsG := mg (mt_2 _ (List.mem_of_getElem? (i := 17) rfl)) rfl
theorem nq_175 : Cond.instanceMethod yX6_tell ∈ wsG := mg (mt_2 _ (List.mem_of_getElem? (i := 18) rfl)) rfl
theorem nq_176 : Cond.selects RX6 yX6_tell yX6_tell ∈ wsG := mg (mt_2 _ (List.mem_of_getElem? (i := 19) rfl)) rfl
theorem nq_177 : Cond.code yX6_tell cX6_tell 4 (some .int) ∈ wsG := mg (mt_2 _ (List.mem_of_getElem? (i := 20) rfl)) rfl
theorem nq_178 : Cond.methodLink RX6 19 yX4_begin ∈ wsG := mg (mt_2 _ (List.mem_of_getElem? (i := 21) rfl)) rfl
theorem nq_179 : Cond.methodLink RX6 24 yX6_tellStep ∈ wsG := mg (mt_2 _ (List.mem_of_getElem? (i := 22) rfl)) rfl
theorem nq_180 : Cond.instanceMethod yX6_tellStep ∈ wsG := mg (mt_2 _ (List.mem_of_getElem? (i := 24) rfl)) rfl
theorem nq_181 : Cond.selects RX6 yX6_tellStep yX6_tellStep ∈ wsG := mg (mp_1 (_, 2) (List.mem_of_getElem? (i := 0) rfl)) rfl
theorem nq_182 : Cond.code yX6_tellStep cX6_tellStep 6 (some .int) ∈ wsG := mg (mt_2 _ (List.mem_of_getElem? (i := 25) rfl)) rfl
theorem nq_183 : Cond.methodLink RX6 35 yX7_lives ∈ wsG := mg (mt_2 _ (List.mem_of_getElem? (i := 26) rfl)) rfl
theorem nq_184 : Cond.instanceMethod yX7_lives ∈ wsG := mg (mt_2 _ (List.mem_of_getElem? (i := 27) rfl)) rfl
theorem nq_185 : Cond.selects RX7 yX7_lives yX7_lives ∈ wsG := mg (mt_2 _ (List.mem_of_getElem? (i := 28) rfl)) rfl
theorem nq_186 : Cond.code yX7_lives cX7_lives 2 (some .boolean) ∈ wsG := mg (mt_2 _ (List.mem_of_getElem? (i := 29) rfl)) rfl
theorem nq_187 : Cond.methodLink RX6 41 yX7_choices ∈ wsG := mg (mt_2 _ (List.mem_of_getElem? (i := 30) rfl)) rfl
theorem nq_188 : Cond.instanceMethod yX7_choices ∈ wsG := mg (mt_2 _ (List.mem_of_getElem? (i := 31) rfl)) rfl
theorem nq_189 : Cond.selects RX7 yX7_choices yX7_choices ∈ wsG := mg (mt_2 _ (List.mem_of_getElem? (i := 32) rfl)) rfl
theorem nq_190 : Cond.code yX7_choices cX7_choices 3 (some .int) ∈ wsG := mg (mt_2 _ (List.mem_of_getElem? (i := 33) rfl)) rfl
theorem nq_191 : Cond.methodLink RX7 34 yX7_lives ∈ wsG := mg (mt_2 _ (List.mem_of_getElem? (i := 34) rfl)) rfl
theorem nq_192 : Cond.methodLink RX7 38 yX7_allToWrite ∈ wsG := mg (mt_2 _ (List.mem_of_getElem? (i := 35) rfl)) rfl
theorem nq_193 : Cond.instanceMethod yX7_allToWrite ∈ wsG := mg (mt_2 _ (List.mem_of_getElem? (i := 36) rfl)) rfl
theorem nq_194 : Cond.selects RX7 yX7_allToWrite yX7_allToWrite ∈ wsG := mg (mt_2 _ (List.mem_of_getElem? (i := 37) rfl)) rfl
theorem nq_195 : Cond.code yX7_allToWrite cX7_allToWrite 1 (some .int) ∈ wsG := mg (mt_2 _ (List.mem_of_getElem? (i := 38) rfl)) rfl
theorem nq_196 : Cond.methodLink RX7 42 yX7_allToRead ∈ wsG := mg (mt_2 _ (List.mem_of_getElem? (i := 39) rfl)) rfl
theorem nq_197 : Cond.instanceMethod yX7_allToRead ∈ wsG := mg (mt_2 _ (List.mem_of_getElem? (i := 40) rfl)) rfl
theorem nq_198 : Cond.selects RX7 yX7_allToRead yX7_allToRead ∈ wsG := mg (mt_2 _ (List.mem_of_getElem? (i := 41) rfl)) rfl
theorem nq_199 : Cond.code yX7_allToRead cX7_allToRead 1 (some .int) ∈ wsG := mg (mt_2 _ (List.mem_of_getElem? (i := 42) rfl)) rfl
theorem nq_200 : Cond.methodLink RX7 45 yX7_awaitable ∈ wsG := mg (mt_2 _ (List.mem_of_getElem? (i := 43) rfl)) rfl
theorem nq_201 : Cond.instanceMethod yX7_awaitable ∈ wsG := mg (mt_2 _ (List.mem_of_getElem? (i := 45) rfl)) rfl
theorem nq_202 : Cond.selects RX7 yX7_awaitable yX7_awaitable ∈ wsG := mg (mp_1 (_, 4) (List.mem_of_getElem? (i := 1) rfl)) rfl
theorem nq_203 : Cond.code yX7_awaitable cX7_awaitable 4 (some .int) ∈ wsG := mg (mt_2 _ (List.mem_of_getElem? (i := 46) rfl)) rfl
theorem nq_204 : Cond.methodLink RX6 45 yX6_firstLetter ∈ wsG := mg (mt_2 _ (List.mem_of_getElem? (i := 47) rfl)) rfl
theorem nq_205 : Cond.static yX6_firstLetter ∈ wsG := mg (mt_2 _ (List.mem_of_getElem? (i := 48) rfl)) rfl
theorem nq_206 : Cond.code yX6_firstLetter cX6_firstLetter 1 (some .int) ∈ wsG := mg (mt_2 _ (List.mem_of_getElem? (i := 49) rfl)) rfl
theorem nq_207 : Cond.static yX8_isOneOfFour ∈ wsG := mg (mt_2 _ (List.mem_of_getElem? (i := 51) rfl)) rfl
theorem nq_208 : Cond.code yX8_isOneOfFour cX8_isOneOfFour 1 (some .boolean) ∈ wsG := mg (mt_2 _ (List.mem_of_getElem? (i := 52) rfl)) rfl
theorem nq_209 : Cond.methodLink RX6 52 yX4_pack ∈ wsG := mg (mt_2 _ (List.mem_of_getElem? (i := 53) rfl)) rfl
theorem nq_210 : Cond.static yX4_pack ∈ wsG := mg (mt_2 _ (List.mem_of_getElem? (i := 54) rfl)) rfl
theorem nq_211 : Cond.code yX4_pack cX4_pack 3 (some .int) ∈ wsG := mg (mt_2 _ (List.mem_of_getElem? (i := 55) rfl)) rfl
theorem nq_212 : Cond.methodLink RX6 56 yX4_put ∈ wsG := mg (mt_2 _ (List.mem_of_getElem? (i := 56) rfl)) rfl
theorem nq_213 : Cond.instanceMethod yX4_put ∈ wsG := mg (mt_2 _ (List.mem_of_getElem? (i := 57) rfl)) rfl
theorem nq_214 : Cond.selects RX4 yX4_put yX4_put ∈ wsG := mg (mt_2 _ (List.mem_of_getElem? (i := 58) rfl)) rfl
theorem nq_215 : Cond.code yX4_put cX4_put 5 (some .boolean) ∈ wsG := mg (mt_2 _ (List.mem_of_getElem? (i := 59) rfl)) rfl
theorem nq_216 : Cond.methodLink RX4 54 yX7_choices ∈ wsG := mg (mt_2 _ (List.mem_of_getElem? (i := 60) rfl)) rfl
theorem nq_217 : Cond.methodLink RX4 64 yX4_order ∈ wsG := mg (mt_2 _ (List.mem_of_getElem? (i := 61) rfl)) rfl
theorem nq_218 : Cond.instanceMethod yX4_order ∈ wsG := mg (mt_2 _ (List.mem_of_getElem? (i := 63) rfl)) rfl
theorem nq_219 : Cond.selects RX4 yX4_order yX4_order ∈ wsG := mg (mp_1 (_, 9) (List.mem_of_getElem? (i := 2) rfl)) rfl
theorem nq_220 : Cond.code yX4_order cX4_order 5 none ∈ wsG := mg (mt_2 _ (List.mem_of_getElem? (i := 64) rfl)) rfl
theorem nq_221 : Cond.methodLink RX4 68 yX7_go ∈ wsG := mg (mt_2 _ (List.mem_of_getElem? (i := 65) rfl)) rfl
theorem nq_222 : Cond.instanceMethod yX7_go ∈ wsG := mg (mt_2 _ (List.mem_of_getElem? (i := 66) rfl)) rfl
theorem nq_223 : Cond.selects RX7 yX7_go yX7_go ∈ wsG := mg (mt_2 _ (List.mem_of_getElem? (i := 67) rfl)) rfl
theorem nq_224 : Cond.code yX7_go cX7_go 5 none ∈ wsG := mg (mt_2 _ (List.mem_of_getElem? (i := 68) rfl)) rfl
theorem nq_225 : Cond.methodLink RL 26 yX9_fault ∈ wsG := mg (mt_4 _ (List.mem_of_getElem? (i := 58) rfl)) rfl
theorem nq_226 : Cond.instanceMethod yX9_fault ∈ wsG := mg (mt_4 _ (List.mem_of_getElem? (i := 59) rfl)) rfl
theorem nq_227 : Cond.selects RX9 yX9_fault yX9_fault ∈ wsG := mg (mt_4 _ (List.mem_of_getElem? (i := 60) rfl)) rfl
theorem nq_228 : Cond.code yX9_fault cX9_fault 1 (some .int) ∈ wsG := mg (mt_4 _ (List.mem_of_getElem? (i := 61) rfl)) rfl
theorem nq_229 : Cond.methodLink RX9 153 yX9_readText ∈ wsG := mg (mt_4 _ (List.mem_of_getElem? (i := 62) rfl)) rfl
theorem nq_230 : Cond.instanceMethod yX9_readText ∈ wsG := mg (mt_4 _ (List.mem_of_getElem? (i := 64) rfl)) rfl
theorem nq_231 : Cond.selects RX9 yX9_readText yX9_readText ∈ wsG := mg (mp_1 (_, 39) (List.mem_of_getElem? (i := 14) rfl)) rfl
theorem nq_232 : Cond.code yX9_readText cX9_readText 5 (some .int) ∈ wsG := mg (mt_4 _ (List.mem_of_getElem? (i := 65) rfl)) rfl
theorem nq_233 : Cond.methodLink RX9 125 yX9_begin ∈ wsG := mg (mt_4 _ (List.mem_of_getElem? (i := 66) rfl)) rfl
theorem nq_234 : Cond.instanceMethod yX9_begin ∈ wsG := mg (mt_4 _ (List.mem_of_getElem? (i := 68) rfl)) rfl
theorem nq_235 : Cond.selects RX9 yX9_begin yX9_begin ∈ wsG := mg (mp_1 (_, 39) (List.mem_of_getElem? (i := 15) rfl)) rfl
theorem nq_236 : Cond.code yX9_begin cX9_begin 2 none ∈ wsG := mg (mt_4 _ (List.mem_of_getElem? (i := 69) rfl)) rfl
theorem nq_237 : Cond.fieldLink RX9 80 "LockWatchModel" "started" "I" ∈ wsG := mg (mt_3 _ (List.mem_of_getElem? (i := 170) rfl)) rfl
theorem nq_238 : Cond.fieldLink RX9 84 "LockWatchModel" "ended" "I" ∈ wsG := mg (mt_3 _ (List.mem_of_getElem? (i := 171) rfl)) rfl
theorem nq_239 : Cond.methodLink RX9 108 yX9_isRunning ∈ wsG := mg (mt_4 _ (List.mem_of_getElem? (i := 70) rfl)) rfl
theorem nq_240 : Cond.instanceMethod yX9_isRunning ∈ wsG := mg (mt_4 _ (List.mem_of_getElem? (i := 72) rfl)) rfl
theorem nq_241 : Cond.selects RX9 yX9_isRunning yX9_isRunning ∈ wsG := mg (mp_2 (_, 39) (List.mem_of_getElem? (i := 0) rfl)) rfl
theorem nq_242 : Cond.code yX9_isRunning cX9_isRunning 2 (some .boolean) ∈ wsG := mg (mt_4 _ (List.mem_of_getElem? (i := 73) rfl)) rfl
theorem nq_243 : Cond.constantLong RX9 87 (3) ∈ wsG := mg (mt_4 _ (List.mem_of_getElem? (i := 74) rfl)) rfl
theorem nq_244 : Cond.methodLink RX9 93 yX9_has ∈ wsG := mg (mt_4 _ (List.mem_of_getElem? (i := 75) rfl)) rfl
theorem nq_245 : Cond.static yX9_has ∈ wsG := mg (mt_4 _ (List.mem_of_getElem? (i := 76) rfl)) rfl
theorem nq_246 : Cond.code yX9_has cX9_has 2 (some .boolean) ∈ wsG := mg (mt_4 _ (List.mem_of_getElem? (i := 77) rfl)) rfl
theorem nq_247 : Cond.methodLink RX9 144 yX9_signOf ∈ wsG := mg (mt_4 _ (List.mem_of_getElem? (i := 78) rfl)) rfl
theorem nq_248 : Cond.static yX9_signOf ∈ wsG := mg (mt_4 _ (List.mem_of_getElem? (i := 79) rfl)) rfl
theorem nq_249 : Cond.code yX9_signOf cX9_signOf 1 (some .int) ∈ wsG := mg (mt_4 _ (List.mem_of_getElem? (i := 80) rfl)) rfl
theorem nq_250 : Cond.methodLink RX9 147 yX9_mayAny ∈ wsG := mg (mt_4 _ (List.mem_of_getElem? (i := 81) rfl)) rfl
theorem nq_251 : Cond.instanceMethod yX9_mayAny ∈ wsG := mg (mt_4 _ (List.mem_of_getElem? (i := 83) rfl)) rfl
theorem nq_252 : Cond.selects RX9 yX9_mayAny yX9_mayAny ∈ wsG := mg (mp_2 (_, 39) (List.mem_of_getElem? (i := 1) rfl)) rfl
theorem nq_253 : Cond.code yX9_mayAny cX9_mayAny 3 (some .boolean) ∈ wsG := mg (mt_4 _ (List.mem_of_getElem? (i := 84) rfl)) rfl
theorem nq_254 : Cond.methodLink RX9 112 yX9_mayBe ∈ wsG := mg (mt_4 _ (List.mem_of_getElem? (i := 85) rfl)) rfl
theorem nq_255 : Cond.instanceMethod yX9_mayBe ∈ wsG := mg (mt_4 _ (List.mem_of_getElem? (i := 87) rfl)) rfl
theorem nq_256 : Cond.selects RX9 yX9_mayBe yX9_mayBe ∈ wsG := mg (mp_2 (_, 39) (List.mem_of_getElem? (i := 2) rfl)) rfl
theorem nq_257 : Cond.code yX9_mayBe cX9_mayBe 4 (some .boolean) ∈ wsG := mg (mt_4 _ (List.mem_of_getElem? (i := 88) rfl)) rfl
theorem nq_258 : Cond.methodLink RX9 104 yX9_isFree ∈ wsG := mg (mt_4 _ (List.mem_of_getElem? (i := 89) rfl)) rfl
theorem nq_259 : Cond.instanceMethod yX9_isFree ∈ wsG := mg (mt_4 _ (List.mem_of_getElem? (i := 91) rfl)) rfl
theorem nq_260 : Cond.selects RX9 yX9_isFree yX9_isFree ∈ wsG := mg (mp_2 (_, 39) (List.mem_of_getElem? (i := 3) rfl)) rfl
theorem nq_261 : Cond.code yX9_isFree cX9_isFree 4 (some .boolean) ∈ wsG := mg (mt_4 _ (List.mem_of_getElem? (i := 92) rfl)) rfl
theorem nq_262 : Cond.methodLink RX9 97 yX9_writeHeld ∈ wsG := mg (mt_4 _ (List.mem_of_getElem? (i := 93) rfl)) rfl
theorem nq_263 : Cond.instanceMethod yX9_writeHeld ∈ wsG := mg (mt_4 _ (List.mem_of_getElem? (i := 95) rfl)) rfl
theorem nq_264 : Cond.selects RX9 yX9_writeHeld yX9_writeHeld ∈ wsG := mg (mp_2 (_, 39) (List.mem_of_getElem? (i := 4) rfl)) rfl
theorem nq_265 : Cond.code yX9_writeHeld cX9_writeHeld 1 (some .int) ∈ wsG := mg (mt_4 _ (List.mem_of_getElem? (i := 96) rfl)) rfl
theorem nq_266 : Cond.methodLink RX9 101 yX9_readHeld ∈ wsG := mg (mt_4 _ (List.mem_of_getElem? (i := 97) rfl)) rfl
theorem nq_267 : Cond.instanceMethod yX9_readHeld ∈ wsG := mg (mt_4 _ (List.mem_of_getElem? (i := 99) rfl)) rfl
theorem nq_268 : Cond.selects RX9 yX9_readHeld yX9_readHeld ∈ wsG := mg (mp_2 (_, 39) (List.mem_of_getElem? (i := 5) rfl)) rfl
theorem nq_269 : Cond.code yX9_readHeld cX9_readHeld 1 (some .int) ∈ wsG := mg (mt_4 _ (List.mem_of_getElem? (i := 100) rfl)) rfl
theorem nq_270 : Cond.methodLink RX9 150 yX9_aboutBy ∈ wsG := mg (mt_4 _ (List.mem_of_getElem? (i := 101) rfl)) rfl
theorem nq_271 : Cond.static yX9_aboutBy ∈ wsG := mg (mt_4 _ (List.mem_of_getElem? (i := 102) rfl)) rfl
theorem nq_272 : Cond.code yX9_aboutBy cX9_aboutBy 2 (some .int) ∈ wsG := mg (mt_4 _ (List.mem_of_getElem? (i := 103) rfl)) rfl
theorem nq_273 : Cond.methodLink RX9 135 yX9_go ∈ wsG := mg (mt_4 _ (List.mem_of_getElem? (i := 104) rfl)) rfl
theorem nq_274 : Cond.instanceMethod yX9_go ∈ wsG := mg (mt_4 _ (List.mem_of_getElem? (i := 106) rfl)) rfl
theorem nq_275 : Cond.selects RX9 yX9_go yX9_go ∈ wsG := mg (mp_2 (_, 39) (List.mem_of_getElem? (i := 6) rfl)) rfl
theorem nq_276 : Cond.code yX9_go cX9_go 5 none ∈ wsG := mg (mt_4 _ (List.mem_of_getElem? (i := 107) rfl)) rfl
theorem nq_277 : Cond.methodLink RL 27 yX8_trace ∈ wsG := mg (mt_2 _ (List.mem_of_getElem? (i := 69) rfl)) rfl
theorem nq_278 : Cond.instanceMethod yX8_trace ∈ wsG := mg (mt_2 _ (List.mem_of_getElem? (i := 70) rfl)) rfl
theorem nq_279 : Cond.selects RX8 yX8_trace yX8_trace ∈ wsG := mg (mt_2 _ (List.mem_of_getElem? (i := 71) rfl)) rfl
theorem nq_280 : Cond.code yX8_trace cX8_trace 2 (some .int) ∈ wsG := mg (mt_2 _ (List.mem_of_getElem? (i := 72) rfl)) rfl
theorem nq_281 : Cond.methodLink RX8 78 yX4_copy ∈ wsG := mg (mt_2 _ (List.mem_of_getElem? (i := 73) rfl)) rfl
theorem nq_282 : Cond.instanceMethod yX4_copy ∈ wsG := mg (mt_2 _ (List.mem_of_getElem? (i := 74) rfl)) rfl
theorem nq_283 : Cond.selects RX4 yX4_copy yX4_copy ∈ wsG := mg (mt_2 _ (List.mem_of_getElem? (i := 75) rfl)) rfl
theorem nq_284 : Cond.code yX4_copy cX4_copy 3 none ∈ wsG := mg (mt_2 _ (List.mem_of_getElem? (i := 76) rfl)) rfl
theorem nq_285 : Cond.methodLink RX4 71 yX4_put ∈ wsG := mg (mt_2 _ (List.mem_of_getElem? (i := 77) rfl)) rfl
theorem nq_286 : Cond.methodLink RL 30 yX9_trace ∈ wsG := mg (mt_4 _ (List.mem_of_getElem? (i := 108) rfl)) rfl
theorem nq_287 : Cond.instanceMethod yX9_trace ∈ wsG := mg (mt_4 _ (List.mem_of_getElem? (i := 109) rfl)) rfl
theorem nq_288 : Cond.selects RX9 yX9_trace yX9_trace ∈ wsG := mg (mt_4 _ (List.mem_of_getElem? (i := 110) rfl)) rfl
theorem nq_289 : Cond.code yX9_trace cX9_trace 2 (some .int) ∈ wsG := mg (mt_4 _ (List.mem_of_getElem? (i := 111) rfl)) rfl
theorem nq_290 : Cond.fieldLink RX9 156 "LockWatchModel" "acts" "I" ∈ wsG := mg (mt_3 _ (List.mem_of_getElem? (i := 178) rfl)) rfl
theorem nq_291 : Cond.methodLink RX9 128 yX9_many ∈ wsG := mg (mt_4 _ (List.mem_of_getElem? (i := 112) rfl)) rfl
theorem nq_292 : Cond.instanceMethod yX9_many ∈ wsG := mg (mt_4 _ (List.mem_of_getElem? (i := 114) rfl)) rfl
theorem nq_293 : Cond.selects RX9 yX9_many yX9_many ∈ wsG := mg (mp_2 (_, 39) (List.mem_of_getElem? (i := 7) rfl)) rfl
theorem nq_294 : Cond.code yX9_many cX9_many 2 (some .int) ∈ wsG := mg (mt_4 _ (List.mem_of_getElem? (i := 115) rfl)) rfl
theorem nq_295 : Cond.methodLink RL 31 yX8_step ∈ wsG := mg (mt_2 _ (List.mem_of_getElem? (i := 78) rfl)) rfl
theorem nq_296 : Cond.instanceMethod yX8_step ∈ wsG := mg (mt_2 _ (List.mem_of_getElem? (i := 79) rfl)) rfl
theorem nq_297 : Cond.selects RX8 yX8_step yX8_step ∈ wsG := mg (mt_2 _ (List.mem_of_getElem? (i := 80) rfl)) rfl
theorem nq_298 : Cond.code yX8_step cX8_step 3 (some .int) ∈ wsG := mg (mt_2 _ (List.mem_of_getElem? (i := 81) rfl)) rfl
theorem nq_299 : Cond.methodLink RX8 86 yX4_has ∈ wsG := mg (mt_2 _ (List.mem_of_getElem? (i := 82) rfl)) rfl
theorem nq_300 : Cond.instanceMethod yX4_has ∈ wsG := mg (mt_2 _ (List.mem_of_getElem? (i := 83) rfl)) rfl
theorem nq_301 : Cond.selects RX4 yX4_has yX4_has ∈ wsG := mg (mt_2 _ (List.mem_of_getElem? (i := 84) rfl)) rfl
theorem nq_302 : Cond.code yX4_has cX4_has 2 (some .boolean) ∈ wsG := mg (mt_2 _ (List.mem_of_getElem? (i := 85) rfl)) rfl
theorem nq_303 : Cond.methodLink RX8 89 yX4_threadAt ∈ wsG := mg (mt_2 _ (List.mem_of_getElem? (i := 86) rfl)) rfl
theorem nq_304 : Cond.instanceMethod yX4_threadAt ∈ wsG := mg (mt_2 _ (List.mem_of_getElem? (i := 87) rfl)) rfl
theorem nq_305 : Cond.selects RX4 yX4_threadAt yX4_threadAt ∈ wsG := mg (mt_2 _ (List.mem_of_getElem? (i := 88) rfl)) rfl
theorem nq_306 : Cond.code yX4_threadAt cX4_threadAt 2 (some .int) ∈ wsG := mg (mt_2 _ (List.mem_of_getElem? (i := 89) rfl)) rfl
theorem nq_307 : Cond.methodLink RX8 93 yX4_signAt ∈ wsG := mg (mt_2 _ (List.mem_of_getElem? (i := 90) rfl)) rfl
theorem nq_308 : Cond.instanceMethod yX4_signAt ∈ wsG := mg (mt_2 _ (List.mem_of_getElem? (i := 91) rfl)) rfl
theorem nq_309 : Cond.selects RX4 yX4_signAt yX4_signAt ∈ wsG := mg (mt_2 _ (List.mem_of_getElem? (i := 92) rfl)) rfl
theorem nq_310 : Cond.code yX4_signAt cX4_signAt 2 (some .int) ∈ wsG := mg (mt_2 _ (List.mem_of_getElem? (i := 93) rfl)) rfl
theorem nq_311 : Cond.methodLink RX8 96 yX4_aboutAt ∈ wsG := mg (mt_2 _ (List.mem_of_getElem? (i := 94) rfl)) rfl
theorem nq_312 : Cond.instanceMethod yX4_aboutAt ∈ wsG := mg (mt_2 _ (List.mem_of_getElem? (i := 95) rfl)) rfl
theorem nq_313 : Cond.selects RX4 yX4_aboutAt yX4_aboutAt ∈ wsG := mg (mt_2 _ (List.mem_of_getElem? (i := 96) rfl)) rfl
theorem nq_314 : Cond.code yX4_aboutAt cX4_aboutAt 2 (some .int) ∈ wsG := mg (mt_2 _ (List.mem_of_getElem? (i := 97) rfl)) rfl
theorem nq_315 : Cond.methodLink RL 35 yX9_step ∈ wsG := mg (mt_4 _ (List.mem_of_getElem? (i := 116) rfl)) rfl
theorem nq_316 : Cond.instanceMethod yX9_step ∈ wsG := mg (mt_4 _ (List.mem_of_getElem? (i := 117) rfl)) rfl
theorem nq_317 : Cond.selects RX9 yX9_step yX9_step ∈ wsG := mg (mt_4 _ (List.mem_of_getElem? (i := 118) rfl)) rfl
theorem nq_318 : Cond.code yX9_step cX9_step 3 (some .int) ∈ wsG := mg (mt_4 _ (List.mem_of_getElem? (i := 119) rfl)) rfl
theorem nq_319 : Cond.methodLink RX9 159 yX9_isStep ∈ wsG := mg (mt_4 _ (List.mem_of_getElem? (i := 120) rfl)) rfl
theorem nq_320 : Cond.instanceMethod yX9_isStep ∈ wsG := mg (mt_4 _ (List.mem_of_getElem? (i := 122) rfl)) rfl
theorem nq_321 : Cond.selects RX9 yX9_isStep yX9_isStep ∈ wsG := mg (mp_2 (_, 39) (List.mem_of_getElem? (i := 8) rfl)) rfl
theorem nq_322 : Cond.code yX9_isStep cX9_isStep 3 (some .boolean) ∈ wsG := mg (mt_4 _ (List.mem_of_getElem? (i := 123) rfl)) rfl
theorem nq_323 : Cond.methodLink RX9 162 yX9_findHeld ∈ wsG := mg (mt_4 _ (List.mem_of_getElem? (i := 124) rfl)) rfl
theorem nq_324 : Cond.instanceMethod yX9_findHeld ∈ wsG := mg (mt_4 _ (List.mem_of_getElem? (i := 126) rfl)) rfl
theorem nq_325 : Cond.selects RX9 yX9_findHeld yX9_findHeld ∈ wsG := mg (mp_2 (_, 39) (List.mem_of_getElem? (i := 9) rfl)) rfl
theorem nq_326 : Cond.code yX9_findHeld cX9_findHeld 4 none ∈ wsG := mg (mt_4 _ (List.mem_of_getElem? (i := 127) rfl)) rfl
theorem nq_327 : Cond.methodLink RX9 132 yX9_threadAt ∈ wsG := mg (mt_4 _ (List.mem_of_getElem? (i := 128) rfl)) rfl
theorem nq_328 : Cond.instanceMethod yX9_threadAt ∈ wsG := mg (mt_4 _ (List.mem_of_getElem? (i := 130) rfl)) rfl
theorem nq_329 : Cond.selects RX9 yX9_threadAt yX9_threadAt ∈ wsG := mg (mp_2 (_, 39) (List.mem_of_getElem? (i := 10) rfl)) rfl
theorem nq_330 : Cond.code yX9_threadAt cX9_threadAt 3 (some .int) ∈ wsG := mg (mt_4 _ (List.mem_of_getElem? (i := 131) rfl)) rfl
theorem nq_331 : Cond.methodLink RX9 115 yX9_signAt ∈ wsG := mg (mt_4 _ (List.mem_of_getElem? (i := 132) rfl)) rfl
theorem nq_332 : Cond.instanceMethod yX9_signAt ∈ wsG := mg (mt_4 _ (List.mem_of_getElem? (i := 134) rfl)) rfl
theorem nq_333 : Cond.selects RX9 yX9_signAt yX9_signAt ∈ wsG := mg (mp_2 (_, 39) (List.mem_of_getElem? (i := 11) rfl)) rfl
theorem nq_334 : Cond.code yX9_signAt cX9_signAt 3 (some .int) ∈ wsG := mg (mt_4 _ (List.mem_of_getElem? (i := 135) rfl)) rfl
theorem nq_335 : Cond.methodLink RX9 122 yX9_aboutAt ∈ wsG := mg (mt_4 _ (List.mem_of_getElem? (i := 136) rfl)) rfl
theorem nq_336 : Cond.instanceMethod yX9_aboutAt ∈ wsG := mg (mt_4 _ (List.mem_of_getElem? (i := 138) rfl)) rfl
theorem nq_337 : Cond.selects RX9 yX9_aboutAt yX9_aboutAt ∈ wsG := mg (mp_2 (_, 39) (List.mem_of_getElem? (i := 12) rfl)) rfl
theorem nq_338 : Cond.code yX9_aboutAt cX9_aboutAt 3 (some .int) ∈ wsG := mg (mt_4 _ (List.mem_of_getElem? (i := 139) rfl)) rfl
theorem nq_339 : Cond.methodLink RX9 166 yX9_letterOf ∈ wsG := mg (mt_4 _ (List.mem_of_getElem? (i := 140) rfl)) rfl
theorem nq_340 : Cond.static yX9_letterOf ∈ wsG := mg (mt_4 _ (List.mem_of_getElem? (i := 141) rfl)) rfl
theorem nq_341 : Cond.code yX9_letterOf cX9_letterOf 1 (some .int) ∈ wsG := mg (mt_4 _ (List.mem_of_getElem? (i := 142) rfl)) rfl
theorem nq_342 : Cond.methodLink RL 36 yX8_drop ∈ wsG := mg (mt_2 _ (List.mem_of_getElem? (i := 98) rfl)) rfl
theorem nq_343 : Cond.instanceMethod yX8_drop ∈ wsG := mg (mt_2 _ (List.mem_of_getElem? (i := 99) rfl)) rfl
theorem nq_344 : Cond.selects RX8 yX8_drop yX8_drop ∈ wsG := mg (mt_2 _ (List.mem_of_getElem? (i := 100) rfl)) rfl
theorem nq_345 : Cond.code yX8_drop cX8_drop 3 (some .int) ∈ wsG := mg (mt_2 _ (List.mem_of_getElem? (i := 101) rfl)) rfl
theorem nq_346 : Cond.methodLink RX8 109 yX4_takeOut ∈ wsG := mg (mt_2 _ (List.mem_of_getElem? (i := 102) rfl)) rfl
theorem nq_347 : Cond.instanceMethod yX4_takeOut ∈ wsG := mg (mt_2 _ (List.mem_of_getElem? (i := 103) rfl)) rfl
theorem nq_348 : Cond.selects RX4 yX4_takeOut yX4_takeOut ∈ wsG := mg (mt_2 _ (List.mem_of_getElem? (i := 104) rfl)) rfl
theorem nq_349 : Cond.code yX4_takeOut cX4_takeOut 5 (some .boolean) ∈ wsG := mg (mt_2 _ (List.mem_of_getElem? (i := 105) rfl)) rfl
theorem nq_350 : Cond.methodLink RX4 78 yX4_has ∈ wsG := mg (mt_2 _ (List.mem_of_getElem? (i := 106) rfl)) rfl
theorem nq_351 : Cond.methodLink RX4 81 yX4_replay ∈ wsG := mg (mt_2 _ (List.mem_of_getElem? (i := 107) rfl)) rfl
theorem nq_352 : Cond.instanceMethod yX4_replay ∈ wsG := mg (mt_2 _ (List.mem_of_getElem? (i := 109) rfl)) rfl
theorem nq_353 : Cond.selects RX4 yX4_replay yX4_replay ∈ wsG := mg (mp_1 (_, 9) (List.mem_of_getElem? (i := 3) rfl)) rfl
theorem nq_354 : Cond.code yX4_replay cX4_replay 3 (some .boolean) ∈ wsG := mg (mt_2 _ (List.mem_of_getElem? (i := 110) rfl)) rfl
theorem nq_355 : Cond.methodLink RX4 84 yX4_open ∈ wsG := mg (mt_2 _ (List.mem_of_getElem? (i := 111) rfl)) rfl
theorem nq_356 : Cond.instanceMethod yX4_open ∈ wsG := mg (mt_2 _ (List.mem_of_getElem? (i := 113) rfl)) rfl
theorem nq_357 : Cond.selects RX4 yX4_open yX4_open ∈ wsG := mg (mp_1 (_, 9) (List.mem_of_getElem? (i := 4) rfl)) rfl
theorem nq_358 : Cond.code yX4_open cX4_open 5 none ∈ wsG := mg (mt_2 _ (List.mem_of_getElem? (i := 114) rfl)) rfl
theorem nq_359 : Cond.methodLink RX8 112 yX0_push ∈ wsG := mg (mt_2 _ (List.mem_of_getElem? (i := 115) rfl)) rfl
theorem nq_360 : Cond.instanceMethod yX0_push ∈ wsG := mg (mt_2 _ (List.mem_of_getElem? (i := 116) rfl)) rfl
theorem nq_361 : Cond.selects RX0 yX0_push yX0_push ∈ wsG := mg (mt_2 _ (List.mem_of_getElem? (i := 117) rfl)) rfl
theorem nq_362 : Cond.code yX0_push cX0_push 4 none ∈ wsG := mg (mt_2 _ (List.mem_of_getElem? (i := 118) rfl)) rfl
theorem nq_363 : Cond.fieldLink RX0 18 "LockWatch$Acts" "size" "I" ∈ wsG := mg (mt_1 _ (List.mem_of_getElem? (i := 129) rfl)) rfl
theorem nq_364 : Cond.methodLink RL 39 yX9_drop ∈ wsG := mg (mt_4 _ (List.mem_of_getElem? (i := 143) rfl)) rfl
theorem nq_365 : Cond.instanceMethod yX9_drop ∈ wsG := mg (mt_4 _ (List.mem_of_getElem? (i := 144) rfl)) rfl
theorem nq_366 : Cond.selects RX9 yX9_drop yX9_drop ∈ wsG := mg (mt_4 _ (List.mem_of_getElem? (i := 145) rfl)) rfl
theorem nq_367 : Cond.code yX9_drop cX9_drop 2 (some .int) ∈ wsG := mg (mt_4 _ (List.mem_of_getElem? (i := 146) rfl)) rfl
theorem nq_368 : Cond.methodLink RX9 178 yX9_lay ∈ wsG := mg (mt_4 _ (List.mem_of_getElem? (i := 147) rfl)) rfl
theorem nq_369 : Cond.instanceMethod yX9_lay ∈ wsG := mg (mt_4 _ (List.mem_of_getElem? (i := 149) rfl)) rfl
theorem nq_370 : Cond.selects RX9 yX9_lay yX9_lay ∈ wsG := mg (mp_2 (_, 39) (List.mem_of_getElem? (i := 13) rfl)) rfl
theorem nq_371 : Cond.code yX9_lay cX9_lay 4 none ∈ wsG := mg (mt_4 _ (List.mem_of_getElem? (i := 150) rfl)) rfl
theorem nq_372 : Cond.methodLink RX9 182 yX9_dropOn ∈ wsG := mg (mt_4 _ (List.mem_of_getElem? (i := 151) rfl)) rfl
theorem nq_373 : Cond.instanceMethod yX9_dropOn ∈ wsG := mg (mt_4 _ (List.mem_of_getElem? (i := 153) rfl)) rfl
theorem nq_374 : Cond.selects RX9 yX9_dropOn yX9_dropOn ∈ wsG := mg (mp_2 (_, 39) (List.mem_of_getElem? (i := 14) rfl)) rfl
theorem nq_375 : Cond.code yX9_dropOn cX9_dropOn 4 none ∈ wsG := mg (mt_4 _ (List.mem_of_getElem? (i := 154) rfl)) rfl
theorem nq_376 : Cond.methodLink RX9 185 yX9_takeTrial ∈ wsG := mg (mt_4 _ (List.mem_of_getElem? (i := 155) rfl)) rfl
theorem nq_377 : Cond.instanceMethod yX9_takeTrial ∈ wsG := mg (mt_4 _ (List.mem_of_getElem? (i := 157) rfl)) rfl
theorem nq_378 : Cond.selects RX9 yX9_takeTrial yX9_takeTrial ∈ wsG := mg (mp_2 (_, 39) (List.mem_of_getElem? (i := 15) rfl)) rfl
theorem nq_379 : Cond.code yX9_takeTrial cX9_takeTrial 1 (some .boolean) ∈ wsG := mg (mt_4 _ (List.mem_of_getElem? (i := 158) rfl)) rfl
theorem nq_380 : Cond.methodLink RX9 172 yX9_isTrace ∈ wsG := mg (mt_4 _ (List.mem_of_getElem? (i := 159) rfl)) rfl
theorem nq_381 : Cond.instanceMethod yX9_isTrace ∈ wsG := mg (mt_4 _ (List.mem_of_getElem? (i := 161) rfl)) rfl
theorem nq_382 : Cond.selects RX9 yX9_isTrace yX9_isTrace ∈ wsG := mg (mp_3 (_, 39) (List.mem_of_getElem? (i := 0) rfl)) rfl
theorem nq_383 : Cond.code yX9_isTrace cX9_isTrace 5 (some .boolean) ∈ wsG := mg (mt_4 _ (List.mem_of_getElem? (i := 162) rfl)) rfl
theorem nq_384 : Cond.methodLink RX9 175 yX9_keepAct ∈ wsG := mg (mt_4 _ (List.mem_of_getElem? (i := 163) rfl)) rfl
theorem nq_385 : Cond.instanceMethod yX9_keepAct ∈ wsG := mg (mt_4 _ (List.mem_of_getElem? (i := 165) rfl)) rfl
theorem nq_386 : Cond.selects RX9 yX9_keepAct yX9_keepAct ∈ wsG := mg (mp_3 (_, 39) (List.mem_of_getElem? (i := 1) rfl)) rfl
theorem nq_387 : Cond.code yX9_keepAct cX9_keepAct 2 none ∈ wsG := mg (mt_4 _ (List.mem_of_getElem? (i := 166) rfl)) rfl
theorem nq_388 : Cond.fieldLink RX9 169 "LockWatchModel" "next" "I" ∈ wsG := mg (mt_3 _ (List.mem_of_getElem? (i := 179) rfl)) rfl
theorem nq_389 : Cond.methodLink RL 40 yX8_swap ∈ wsG := mg (mt_2 _ (List.mem_of_getElem? (i := 119) rfl)) rfl
theorem nq_390 : Cond.instanceMethod yX8_swap ∈ wsG := mg (mt_2 _ (List.mem_of_getElem? (i := 120) rfl)) rfl
theorem nq_391 : Cond.selects RX8 yX8_swap yX8_swap ∈ wsG := mg (mt_2 _ (List.mem_of_getElem? (i := 121) rfl)) rfl
theorem nq_392 : Cond.code yX8_swap cX8_swap 3 (some .int) ∈ wsG := mg (mt_2 _ (List.mem_of_getElem? (i := 122) rfl)) rfl
theorem nq_393 : Cond.methodLink RX8 116 yX4_hasPair ∈ wsG := mg (mt_2 _ (List.mem_of_getElem? (i := 123) rfl)) rfl
theorem nq_394 : Cond.instanceMethod yX4_hasPair ∈ wsG := mg (mt_2 _ (List.mem_of_getElem? (i := 124) rfl)) rfl
theorem nq_395 : Cond.selects RX4 yX4_hasPair yX4_hasPair ∈ wsG := mg (mt_2 _ (List.mem_of_getElem? (i := 125) rfl)) rfl
theorem nq_396 : Cond.code yX4_hasPair cX4_hasPair 2 (some .boolean) ∈ wsG := mg (mt_2 _ (List.mem_of_getElem? (i := 126) rfl)) rfl
theorem nq_397 : Cond.methodLink RX8 119 yX4_changePlaces ∈ wsG := mg (mt_2 _ (List.mem_of_getElem? (i := 127) rfl)) rfl
theorem nq_398 : Cond.instanceMethod yX4_changePlaces ∈ wsG := mg (mt_2 _ (List.mem_of_getElem? (i := 128) rfl)) rfl
theorem nq_399 : Cond.selects RX4 yX4_changePlaces yX4_changePlaces ∈ wsG := mg (mt_2 _ (List.mem_of_getElem? (i := 129) rfl)) rfl
theorem nq_400 : Cond.code yX4_changePlaces cX4_changePlaces 3 (some .boolean) ∈ wsG := mg (mt_2 _ (List.mem_of_getElem? (i := 130) rfl)) rfl
theorem nq_401 : Cond.methodLink RX4 87 yX4_hasPair ∈ wsG := mg (mt_2 _ (List.mem_of_getElem? (i := 131) rfl)) rfl
theorem nq_402 : Cond.methodLink RX4 90 yX4_exchange ∈ wsG := mg (mt_2 _ (List.mem_of_getElem? (i := 132) rfl)) rfl
theorem nq_403 : Cond.instanceMethod yX4_exchange ∈ wsG := mg (mt_2 _ (List.mem_of_getElem? (i := 134) rfl)) rfl
theorem nq_404 : Cond.selects RX4 yX4_exchange yX4_exchange ∈ wsG := mg (mp_1 (_, 9) (List.mem_of_getElem? (i := 5) rfl)) rfl
theorem nq_405 : Cond.code yX4_exchange cX4_exchange 3 none ∈ wsG := mg (mt_2 _ (List.mem_of_getElem? (i := 135) rfl)) rfl
theorem nq_406 : Cond.methodLink RL 43 yX9_swap ∈ wsG := mg (mt_4 _ (List.mem_of_getElem? (i := 167) rfl)) rfl
theorem nq_407 : Cond.instanceMethod yX9_swap ∈ wsG := mg (mt_4 _ (List.mem_of_getElem? (i := 168) rfl)) rfl
theorem nq_408 : Cond.selects RX9 yX9_swap yX9_swap ∈ wsG := mg (mt_4 _ (List.mem_of_getElem? (i := 169) rfl)) rfl
theorem nq_409 : Cond.code yX9_swap cX9_swap 3 (some .int) ∈ wsG := mg (mt_4 _ (List.mem_of_getElem? (i := 170) rfl)) rfl
theorem nq_410 : Cond.methodLink RX9 189 yX9_swapOn ∈ wsG := mg (mt_4 _ (List.mem_of_getElem? (i := 171) rfl)) rfl
theorem nq_411 : Cond.instanceMethod yX9_swapOn ∈ wsG := mg (mt_4 _ (List.mem_of_getElem? (i := 173) rfl)) rfl
theorem nq_412 : Cond.selects RX9 yX9_swapOn yX9_swapOn ∈ wsG := mg (mp_3 (_, 39) (List.mem_of_getElem? (i := 2) rfl)) rfl
theorem nq_413 : Cond.code yX9_swapOn cX9_swapOn 4 none ∈ wsG := mg (mt_4 _ (List.mem_of_getElem? (i := 174) rfl)) rfl
theorem nq_414 : Cond.methodLink RL 44 yX8_undo ∈ wsG := mg (mt_2 _ (List.mem_of_getElem? (i := 136) rfl)) rfl
theorem nq_415 : Cond.instanceMethod yX8_undo ∈ wsG := mg (mt_2 _ (List.mem_of_getElem? (i := 137) rfl)) rfl
theorem nq_416 : Cond.selects RX8 yX8_undo yX8_undo ∈ wsG := mg (mt_2 _ (List.mem_of_getElem? (i := 138) rfl)) rfl
theorem nq_417 : Cond.code yX8_undo cX8_undo 1 (some .int) ∈ wsG := mg (mt_2 _ (List.mem_of_getElem? (i := 139) rfl)) rfl
theorem nq_418 : Cond.methodLink RX8 122 yX0_takeBack ∈ wsG := mg (mt_2 _ (List.mem_of_getElem? (i := 140) rfl)) rfl
theorem nq_419 : Cond.instanceMethod yX0_takeBack ∈ wsG := mg (mt_2 _ (List.mem_of_getElem? (i := 141) rfl)) rfl
theorem nq_420 : Cond.selects RX0 yX0_takeBack yX0_takeBack ∈ wsG := mg (mt_2 _ (List.mem_of_getElem? (i := 142) rfl)) rfl
theorem nq_421 : Cond.code yX0_takeBack cX0_takeBack 2 none ∈ wsG := mg (mt_2 _ (List.mem_of_getElem? (i := 143) rfl)) rfl
theorem nq_422 : Cond.methodLink RX0 22 yX4_putBack ∈ wsG := mg (mt_2 _ (List.mem_of_getElem? (i := 144) rfl)) rfl
theorem nq_423 : Cond.instanceMethod yX4_putBack ∈ wsG := mg (mt_2 _ (List.mem_of_getElem? (i := 145) rfl)) rfl
theorem nq_424 : Cond.selects RX4 yX4_putBack yX4_putBack ∈ wsG := mg (mt_2 _ (List.mem_of_getElem? (i := 146) rfl)) rfl
theorem nq_425 : Cond.code yX4_putBack cX4_putBack 4 none ∈ wsG := mg (mt_2 _ (List.mem_of_getElem? (i := 147) rfl)) rfl
theorem nq_426 : Cond.methodLink RX0 28 yX4_changePlaces ∈ wsG := mg (mt_2 _ (List.mem_of_getElem? (i := 148) rfl)) rfl
theorem nq_427 : Cond.methodLink RL 47 yX9_undo ∈ wsG := mg (mt_4 _ (List.mem_of_getElem? (i := 175) rfl)) rfl
theorem nq_428 : Cond.instanceMethod yX9_undo ∈ wsG := mg (mt_4 _ (List.mem_of_getElem? (i := 176) rfl)) rfl
theorem nq_429 : Cond.selects RX9 yX9_undo yX9_undo ∈ wsG := mg (mt_4 _ (List.mem_of_getElem? (i := 177) rfl)) rfl
theorem nq_430 : Cond.code yX9_undo cX9_undo 2 (some .int) ∈ wsG := mg (mt_4 _ (List.mem_of_getElem? (i := 178) rfl)) rfl
theorem nq_431 : Cond.methodLink RL 48 yX8_cell ∈ wsG := mg (mt_2 _ (List.mem_of_getElem? (i := 149) rfl)) rfl
theorem nq_432 : Cond.instanceMethod yX8_cell ∈ wsG := mg (mt_2 _ (List.mem_of_getElem? (i := 150) rfl)) rfl
theorem nq_433 : Cond.selects RX8 yX8_cell yX8_cell ∈ wsG := mg (mt_2 _ (List.mem_of_getElem? (i := 151) rfl)) rfl
theorem nq_434 : Cond.code yX8_cell cX8_cell 5 (some .int) ∈ wsG := mg (mt_2 _ (List.mem_of_getElem? (i := 152) rfl)) rfl
theorem nq_435 : Cond.methodLink RX8 125 yX8_isOneOfFour ∈ wsG := mg (mt_2 _ (List.mem_of_getElem? (i := 153) rfl)) rfl
theorem nq_436 : Cond.methodLink RX8 128 yX1_watch ∈ wsG := mg (mt_2 _ (List.mem_of_getElem? (i := 154) rfl)) rfl
theorem nq_437 : Cond.static yX1_watch ∈ wsG := mg (mt_2 _ (List.mem_of_getElem? (i := 155) rfl)) rfl
theorem nq_438 : Cond.initialized RX1 ∈ wsG := mg (mt_1 _ (List.mem_of_getElem? (i := 11) rfl)) rfl
theorem nq_439 : Cond.code yX1_watch cX1_watch 7 (some .int) ∈ wsG := mg (mt_2 _ (List.mem_of_getElem? (i := 156) rfl)) rfl
theorem nq_440 : Cond.methodLink RX1 32 yX4_touchesAt ∈ wsG := mg (mt_2 _ (List.mem_of_getElem? (i := 157) rfl)) rfl
theorem nq_441 : Cond.instanceMethod yX4_touchesAt ∈ wsG := mg (mt_2 _ (List.mem_of_getElem? (i := 158) rfl)) rfl
theorem nq_442 : Cond.selects RX4 yX4_touchesAt yX4_touchesAt ∈ wsG := mg (mt_2 _ (List.mem_of_getElem? (i := 159) rfl)) rfl
theorem nq_443 : Cond.code yX4_touchesAt cX4_touchesAt 3 (some .boolean) ∈ wsG := mg (mt_2 _ (List.mem_of_getElem? (i := 160) rfl)) rfl
theorem nq_444 : Cond.methodLink RX4 75 yX4_isTouch ∈ wsG := mg (mt_2 _ (List.mem_of_getElem? (i := 161) rfl)) rfl
theorem nq_445 : Cond.instanceMethod yX4_isTouch ∈ wsG := mg (mt_2 _ (List.mem_of_getElem? (i := 162) rfl)) rfl
theorem nq_446 : Cond.selects RX4 yX4_isTouch yX4_isTouch ∈ wsG := mg (mt_2 _ (List.mem_of_getElem? (i := 163) rfl)) rfl
theorem nq_447 : Cond.code yX4_isTouch cX4_isTouch 3 (some .boolean) ∈ wsG := mg (mt_2 _ (List.mem_of_getElem? (i := 164) rfl)) rfl
theorem nq_448 : Cond.methodLink RX1 36 yX1_touch ∈ wsG := mg (mt_2 _ (List.mem_of_getElem? (i := 165) rfl)) rfl
theorem nq_449 : Cond.static yX1_touch ∈ wsG := mg (mt_2 _ (List.mem_of_getElem? (i := 166) rfl)) rfl
theorem nq_450 : Cond.code yX1_touch cX1_touch 8 (some .int) ∈ wsG := mg (mt_2 _ (List.mem_of_getElem? (i := 167) rfl)) rfl
theorem nq_451 : Cond.methodLink RX1 11 yX1_stateOf ∈ wsG := mg (mt_2 _ (List.mem_of_getElem? (i := 168) rfl)) rfl
theorem nq_452 : Cond.static yX1_stateOf ∈ wsG := mg (mt_2 _ (List.mem_of_getElem? (i := 169) rfl)) rfl
theorem nq_453 : Cond.code yX1_stateOf cX1_stateOf 1 (some .int) ∈ wsG := mg (mt_2 _ (List.mem_of_getElem? (i := 170) rfl)) rfl
theorem nq_454 : Cond.methodLink RX1 15 yX4_threadAt ∈ wsG := mg (mt_2 _ (List.mem_of_getElem? (i := 171) rfl)) rfl
theorem nq_455 : Cond.methodLink RX1 20 yX4_writesAt ∈ wsG := mg (mt_2 _ (List.mem_of_getElem? (i := 172) rfl)) rfl
theorem nq_456 : Cond.instanceMethod yX4_writesAt ∈ wsG := mg (mt_2 _ (List.mem_of_getElem? (i := 173) rfl)) rfl
theorem nq_457 : Cond.selects RX4 yX4_writesAt yX4_writesAt ∈ wsG := mg (mt_2 _ (List.mem_of_getElem? (i := 174) rfl)) rfl
theorem nq_458 : Cond.code yX4_writesAt cX4_writesAt 2 (some .boolean) ∈ wsG := mg (mt_2 _ (List.mem_of_getElem? (i := 175) rfl)) rfl
theorem nq_459 : Cond.methodLink RX8 134 yX1_stateOf ∈ wsG := mg (mt_2 _ (List.mem_of_getElem? (i := 176) rfl)) rfl
theorem nq_460 : Cond.methodLink RX8 137 yX1_candidatesOf ∈ wsG := mg (mt_2 _ (List.mem_of_getElem? (i := 177) rfl)) rfl
theorem nq_461 : Cond.static yX1_candidatesOf ∈ wsG := mg (mt_2 _ (List.mem_of_getElem? (i := 178) rfl)) rfl
theorem nq_462 : Cond.code yX1_candidatesOf cX1_candidatesOf 1 (some .int) ∈ wsG := mg (mt_2 _ (List.mem_of_getElem? (i := 179) rfl)) rfl
theorem nq_463 : Cond.methodLink RX8 140 yX1_ownerOf ∈ wsG := mg (mt_2 _ (List.mem_of_getElem? (i := 180) rfl)) rfl
theorem nq_464 : Cond.static yX1_ownerOf ∈ wsG := mg (mt_2 _ (List.mem_of_getElem? (i := 181) rfl)) rfl
theorem nq_465 : Cond.code yX1_ownerOf cX1_ownerOf 1 (some .int) ∈ wsG := mg (mt_2 _ (List.mem_of_getElem? (i := 182) rfl)) rfl
theorem nq_466 : Cond.methodLink RX8 143 yX1_flaggedBy ∈ wsG := mg (mt_2 _ (List.mem_of_getElem? (i := 183) rfl)) rfl
theorem nq_467 : Cond.static yX1_flaggedBy ∈ wsG := mg (mt_2 _ (List.mem_of_getElem? (i := 184) rfl)) rfl
theorem nq_468 : Cond.code yX1_flaggedBy cX1_flaggedBy 5 (some .int) ∈ wsG := mg (mt_2 _ (List.mem_of_getElem? (i := 185) rfl)) rfl
theorem nq_469 : Cond.methodLink RX8 147 yX1_touches ∈ wsG := mg (mt_2 _ (List.mem_of_getElem? (i := 186) rfl)) rfl
theorem nq_470 : Cond.static yX1_touches ∈ wsG := mg (mt_2 _ (List.mem_of_getElem? (i := 187) rfl)) rfl
theorem nq_471 : Cond.code yX1_touches cX1_touches 5 (some .int) ∈ wsG := mg (mt_2 _ (List.mem_of_getElem? (i := 188) rfl)) rfl
theorem nq_472 : Cond.methodLink RL 52 yX9_cell ∈ wsG := mg (mt_4 _ (List.mem_of_getElem? (i := 179) rfl)) rfl
theorem nq_473 : Cond.instanceMethod yX9_cell ∈ wsG := mg (mt_4 _ (List.mem_of_getElem? (i := 180) rfl)) rfl
theorem nq_474 : Cond.selects RX9 yX9_cell yX9_cell ∈ wsG := mg (mt_4 _ (List.mem_of_getElem? (i := 181) rfl)) rfl
theorem nq_475 : Cond.code yX9_cell cX9_cell 4 (some .int) ∈ wsG := mg (mt_4 _ (List.mem_of_getElem? (i := 182) rfl)) rfl
theorem nq_476 : Cond.constantLong RX9 219 (4) ∈ wsG := mg (mt_4 _ (List.mem_of_getElem? (i := 186) rfl)) rfl
theorem nq_477 : Cond.fieldLink RX9 198 "LockWatchModel" "state" "I" ∈ wsG := mg (mt_3 _ (List.mem_of_getElem? (i := 181) rfl)) rfl
theorem nq_478 : Cond.fieldLink RX9 204 "LockWatchModel" "candidates" "I" ∈ wsG := mg (mt_3 _ (List.mem_of_getElem? (i := 182) rfl)) rfl
theorem nq_479 : Cond.fieldLink RX9 201 "LockWatchModel" "owner" "I" ∈ wsG := mg (mt_3 _ (List.mem_of_getElem? (i := 183) rfl)) rfl
theorem nq_480 : Cond.fieldLink RX9 207 "LockWatchModel" "flagged" "I" ∈ wsG := mg (mt_3 _ (List.mem_of_getElem? (i := 184) rfl)) rfl
theorem nq_481 : Cond.fieldLink RX9 195 "LockWatchModel" "touches" "I" ∈ wsG := mg (mt_3 _ (List.mem_of_getElem? (i := 185) rfl)) rfl
theorem nq_482 : Cond.methodLink RX9 216 yX9_isFour ∈ wsG := mg (mt_4 _ (List.mem_of_getElem? (i := 183) rfl)) rfl
theorem nq_483 : Cond.static yX9_isFour ∈ wsG := mg (mt_4 _ (List.mem_of_getElem? (i := 184) rfl)) rfl
theorem nq_484 : Cond.code yX9_isFour cX9_isFour 1 (some .boolean) ∈ wsG := mg (mt_4 _ (List.mem_of_getElem? (i := 185) rfl)) rfl
theorem nq_485 : Cond.methodLink RX9 221 yX9_watchCell ∈ wsG := mg (mt_4 _ (List.mem_of_getElem? (i := 187) rfl)) rfl
theorem nq_486 : Cond.instanceMethod yX9_watchCell ∈ wsG := mg (mt_4 _ (List.mem_of_getElem? (i := 189) rfl)) rfl
theorem nq_487 : Cond.selects RX9 yX9_watchCell yX9_watchCell ∈ wsG := mg (mp_3 (_, 39) (List.mem_of_getElem? (i := 3) rfl)) rfl
theorem nq_488 : Cond.code yX9_watchCell cX9_watchCell 7 none ∈ wsG := mg (mt_4 _ (List.mem_of_getElem? (i := 190) rfl)) rfl
theorem nq_489 : Cond.methodLink RX9 210 yX9_isTouchOf ∈ wsG := mg (mt_4 _ (List.mem_of_getElem? (i := 191) rfl)) rfl
theorem nq_490 : Cond.instanceMethod yX9_isTouchOf ∈ wsG := mg (mt_4 _ (List.mem_of_getElem? (i := 193) rfl)) rfl
theorem nq_491 : Cond.selects RX9 yX9_isTouchOf yX9_isTouchOf ∈ wsG := mg (mp_3 (_, 39) (List.mem_of_getElem? (i := 4) rfl)) rfl
theorem nq_492 : Cond.code yX9_isTouchOf cX9_isTouchOf 4 (some .boolean) ∈ wsG := mg (mt_4 _ (List.mem_of_getElem? (i := 194) rfl)) rfl
theorem nq_493 : Cond.methodLink RX9 119 yX9_isTouch ∈ wsG := mg (mt_4 _ (List.mem_of_getElem? (i := 195) rfl)) rfl
theorem nq_494 : Cond.instanceMethod yX9_isTouch ∈ wsG := mg (mt_4 _ (List.mem_of_getElem? (i := 197) rfl)) rfl
theorem nq_495 : Cond.selects RX9 yX9_isTouch yX9_isTouch ∈ wsG := mg (mp_3 (_, 39) (List.mem_of_getElem? (i := 5) rfl)) rfl
theorem nq_496 : Cond.code yX9_isTouch cX9_isTouch 3 (some .boolean) ∈ wsG := mg (mt_4 _ (List.mem_of_getElem? (i := 198) rfl)) rfl
theorem nq_497 : Cond.methodLink RX9 213 yX9_watch ∈ wsG := mg (mt_4 _ (List.mem_of_getElem? (i := 199) rfl)) rfl
theorem nq_498 : Cond.instanceMethod yX9_watch ∈ wsG := mg (mt_4 _ (List.mem_of_getElem? (i := 201) rfl)) rfl
theorem nq_499 : Cond.selects RX9 yX9_watch yX9_watch ∈ wsG := mg (mp_3 (_, 39) (List.mem_of_getElem? (i := 6) rfl)) rfl
theorem nq_500 : Cond.code yX9_watch cX9_watch 7 none ∈ wsG := mg (mt_4 _ (List.mem_of_getElem? (i := 202) rfl)) rfl
theorem nq_501 : Cond.methodLink RX9 192 yX9_guardsOf ∈ wsG := mg (mt_4 _ (List.mem_of_getElem? (i := 203) rfl)) rfl
theorem nq_502 : Cond.instanceMethod yX9_guardsOf ∈ wsG := mg (mt_4 _ (List.mem_of_getElem? (i := 205) rfl)) rfl
theorem nq_503 : Cond.selects RX9 yX9_guardsOf yX9_guardsOf ∈ wsG := mg (mp_3 (_, 39) (List.mem_of_getElem? (i := 7) rfl)) rfl
theorem nq_504 : Cond.code yX9_guardsOf cX9_guardsOf 3 (some .int) ∈ wsG := mg (mt_4 _ (List.mem_of_getElem? (i := 206) rfl)) rfl
theorem nq_505 : Cond.methodLink RL 53 yX8_ahead ∈ wsG := mg (mt_2 _ (List.mem_of_getElem? (i := 189) rfl)) rfl
theorem nq_506 : Cond.instanceMethod yX8_ahead ∈ wsG := mg (mt_2 _ (List.mem_of_getElem? (i := 190) rfl)) rfl
theorem nq_507 : Cond.selects RX8 yX8_ahead yX8_ahead ∈ wsG := mg (mt_2 _ (List.mem_of_getElem? (i := 191) rfl)) rfl
theorem nq_508 : Cond.code yX8_ahead cX8_ahead 3 (some .int) ∈ wsG := mg (mt_2 _ (List.mem_of_getElem? (i := 192) rfl)) rfl
theorem nq_509 : Cond.methodLink RX8 150 yX4_isAhead ∈ wsG := mg (mt_2 _ (List.mem_of_getElem? (i := 193) rfl)) rfl
theorem nq_510 : Cond.instanceMethod yX4_isAhead ∈ wsG := mg (mt_2 _ (List.mem_of_getElem? (i := 194) rfl)) rfl
theorem nq_511 : Cond.selects RX4 yX4_isAhead yX4_isAhead ∈ wsG := mg (mt_2 _ (List.mem_of_getElem? (i := 195) rfl)) rfl
theorem nq_512 : Cond.code yX4_isAhead cX4_isAhead 3 (some .boolean) ∈ wsG := mg (mt_2 _ (List.mem_of_getElem? (i := 196) rfl)) rfl
theorem nq_513 : Cond.methodLink RL 56 yX9_ahead ∈ wsG := mg (mt_4 _ (List.mem_of_getElem? (i := 207) rfl)) rfl
theorem nq_514 : Cond.instanceMethod yX9_ahead ∈ wsG := mg (mt_4 _ (List.mem_of_getElem? (i := 208) rfl)) rfl
theorem nq_515 : Cond.selects RX9 yX9_ahead yX9_ahead ∈ wsG := mg (mt_4 _ (List.mem_of_getElem? (i := 209) rfl)) rfl
theorem nq_516 : Cond.code yX9_ahead cX9_ahead 3 (some .int) ∈ wsG := mg (mt_4 _ (List.mem_of_getElem? (i := 210) rfl)) rfl
theorem nq_517 : Cond.methodLink RX9 229 yX9_findBefore ∈ wsG := mg (mt_4 _ (List.mem_of_getElem? (i := 211) rfl)) rfl
theorem nq_518 : Cond.instanceMethod yX9_findBefore ∈ wsG := mg (mt_4 _ (List.mem_of_getElem? (i := 213) rfl)) rfl
theorem nq_519 : Cond.selects RX9 yX9_findBefore yX9_findBefore ∈ wsG := mg (mp_3 (_, 39) (List.mem_of_getElem? (i := 8) rfl)) rfl
theorem nq_520 : Cond.code yX9_findBefore cX9_findBefore 6 none ∈ wsG := mg (mt_4 _ (List.mem_of_getElem? (i := 214) rfl)) rfl
theorem nq_521 : Cond.methodLink RX9 225 yX9_allBefore ∈ wsG := mg (mt_4 _ (List.mem_of_getElem? (i := 215) rfl)) rfl
theorem nq_522 : Cond.instanceMethod yX9_allBefore ∈ wsG := mg (mt_4 _ (List.mem_of_getElem? (i := 217) rfl)) rfl
theorem nq_523 : Cond.selects RX9 yX9_allBefore yX9_allBefore ∈ wsG := mg (mp_3 (_, 39) (List.mem_of_getElem? (i := 9) rfl)) rfl
theorem nq_524 : Cond.code yX9_allBefore cX9_allBefore 6 (some .int) ∈ wsG := mg (mt_4 _ (List.mem_of_getElem? (i := 218) rfl)) rfl
theorem nq_525 : Cond.methodLink RL 57 yX8_meetings ∈ wsG := mg (mt_2 _ (List.mem_of_getElem? (i := 197) rfl)) rfl
theorem nq_526 : Cond.instanceMethod yX8_meetings ∈ wsG := mg (mt_2 _ (List.mem_of_getElem? (i := 198) rfl)) rfl
theorem nq_527 : Cond.selects RX8 yX8_meetings yX8_meetings ∈ wsG := mg (mt_2 _ (List.mem_of_getElem? (i := 199) rfl)) rfl
theorem nq_528 : Cond.code yX8_meetings cX8_meetings 3 (some .int) ∈ wsG := mg (mt_2 _ (List.mem_of_getElem? (i := 200) rfl)) rfl
theorem nq_529 : Cond.methodLink RX8 154 yX1_meetingCount ∈ wsG := mg (mt_2 _ (List.mem_of_getElem? (i := 201) rfl)) rfl
theorem nq_530 : Cond.static yX1_meetingCount ∈ wsG := mg (mt_2 _ (List.mem_of_getElem? (i := 202) rfl)) rfl
theorem nq_531 : Cond.code yX1_meetingCount cX1_meetingCount 5 (some .int) ∈ wsG := mg (mt_2 _ (List.mem_of_getElem? (i := 203) rfl)) rfl
theorem nq_532 : Cond.methodLink RX1 56 yX1_meet ∈ wsG := mg (mt_2 _ (List.mem_of_getElem? (i := 204) rfl)) rfl
theorem nq_533 : Cond.static yX1_meet ∈ wsG := mg (mt_2 _ (List.mem_of_getElem? (i := 205) rfl)) rfl
theorem nq_534 : Cond.code yX1_meet cX1_meet 4 (some .boolean) ∈ wsG := mg (mt_2 _ (List.mem_of_getElem? (i := 206) rfl)) rfl
theorem nq_535 : Cond.methodLink RX1 53 yX4_isAhead ∈ wsG := mg (mt_2 _ (List.mem_of_getElem? (i := 207) rfl)) rfl
theorem nq_536 : Cond.methodLink RX8 158 yX1_leastMeeting ∈ wsG := mg (mt_2 _ (List.mem_of_getElem? (i := 208) rfl)) rfl
theorem nq_537 : Cond.static yX1_leastMeeting ∈ wsG := mg (mt_2 _ (List.mem_of_getElem? (i := 209) rfl)) rfl
theorem nq_538 : Cond.code yX1_leastMeeting cX1_leastMeeting 4 (some .int) ∈ wsG := mg (mt_2 _ (List.mem_of_getElem? (i := 210) rfl)) rfl
theorem nq_539 : Cond.methodLink RL 60 yX9_meetings ∈ wsG := mg (mt_4 _ (List.mem_of_getElem? (i := 219) rfl)) rfl
theorem nq_540 : Cond.instanceMethod yX9_meetings ∈ wsG := mg (mt_4 _ (List.mem_of_getElem? (i := 220) rfl)) rfl
theorem nq_541 : Cond.selects RX9 yX9_meetings yX9_meetings ∈ wsG := mg (mt_4 _ (List.mem_of_getElem? (i := 221) rfl)) rfl
theorem nq_542 : Cond.code yX9_meetings cX9_meetings 4 (some .int) ∈ wsG := mg (mt_4 _ (List.mem_of_getElem? (i := 222) rfl)) rfl
theorem nq_543 : Cond.fieldLink RX9 232 "LockWatchModel" "firstMeeting" "I" ∈ wsG := mg (mt_3 _ (List.mem_of_getElem? (i := 187) rfl)) rfl
theorem nq_544 : Cond.methodLink RX9 238 yX9_meetingsOf ∈ wsG := mg (mt_4 _ (List.mem_of_getElem? (i := 223) rfl)) rfl
theorem nq_545 : Cond.instanceMethod yX9_meetingsOf ∈ wsG := mg (mt_4 _ (List.mem_of_getElem? (i := 225) rfl)) rfl
theorem nq_546 : Cond.selects RX9 yX9_meetingsOf yX9_meetingsOf ∈ wsG := mg (mp_3 (_, 39) (List.mem_of_getElem? (i := 10) rfl)) rfl
theorem nq_547 : Cond.code yX9_meetingsOf cX9_meetingsOf 5 (some .int) ∈ wsG := mg (mt_4 _ (List.mem_of_getElem? (i := 226) rfl)) rfl
theorem nq_548 : Cond.methodLink RX9 235 yX9_areMeeting ∈ wsG := mg (mt_4 _ (List.mem_of_getElem? (i := 227) rfl)) rfl
theorem nq_549 : Cond.instanceMethod yX9_areMeeting ∈ wsG := mg (mt_4 _ (List.mem_of_getElem? (i := 229) rfl)) rfl
theorem nq_550 : Cond.selects RX9 yX9_areMeeting yX9_areMeeting ∈ wsG := mg (mp_3 (_, 39) (List.mem_of_getElem? (i := 11) rfl)) rfl
theorem nq_551 : Cond.code yX9_areMeeting cX9_areMeeting 5 (some .boolean) ∈ wsG := mg (mt_4 _ (List.mem_of_getElem? (i := 230) rfl)) rfl
theorem nq_552 : Cond.methodLink RL 61 yX8_edges ∈ wsG := mg (mt_2 _ (List.mem_of_getElem? (i := 211) rfl)) rfl
theorem nq_553 : Cond.instanceMethod yX8_edges ∈ wsG := mg (mt_2 _ (List.mem_of_getElem? (i := 212) rfl)) rfl
theorem nq_554 : Cond.selects RX8 yX8_edges yX8_edges ∈ wsG := mg (mt_2 _ (List.mem_of_getElem? (i := 213) rfl)) rfl
theorem nq_555 : Cond.code yX8_edges cX8_edges 2 (some .int) ∈ wsG := mg (mt_2 _ (List.mem_of_getElem? (i := 214) rfl)) rfl
theorem nq_556 : Cond.methodLink RX8 161 yX3_collect ∈ wsG := mg (mt_2 _ (List.mem_of_getElem? (i := 215) rfl)) rfl
theorem nq_557 : Cond.instanceMethod yX3_collect ∈ wsG := mg (mt_2 _ (List.mem_of_getElem? (i := 216) rfl)) rfl
theorem nq_558 : Cond.selects RX3 yX3_collect yX3_collect ∈ wsG := mg (mt_2 _ (List.mem_of_getElem? (i := 217) rfl)) rfl
theorem nq_559 : Cond.code yX3_collect cX3_collect 4 none ∈ wsG := mg (mt_2 _ (List.mem_of_getElem? (i := 218) rfl)) rfl
theorem nq_560 : Cond.fieldLink RX3 31 "LockWatch$Rings" "size" "I" ∈ wsG := mg (mt_1 _ (List.mem_of_getElem? (i := 167) rfl)) rfl
theorem nq_561 : Cond.methodLink RX3 37 yX4_takesAt ∈ wsG := mg (mt_2 _ (List.mem_of_getElem? (i := 219) rfl)) rfl
theorem nq_562 : Cond.instanceMethod yX4_takesAt ∈ wsG := mg (mt_2 _ (List.mem_of_getElem? (i := 220) rfl)) rfl
theorem nq_563 : Cond.selects RX4 yX4_takesAt yX4_takesAt ∈ wsG := mg (mt_2 _ (List.mem_of_getElem? (i := 221) rfl)) rfl
theorem nq_564 : Cond.code yX4_takesAt cX4_takesAt 3 (some .boolean) ∈ wsG := mg (mt_2 _ (List.mem_of_getElem? (i := 222) rfl)) rfl
theorem nq_565 : Cond.methodLink RX3 41 yX4_heldAt ∈ wsG := mg (mt_2 _ (List.mem_of_getElem? (i := 223) rfl)) rfl
theorem nq_566 : Cond.instanceMethod yX4_heldAt ∈ wsG := mg (mt_2 _ (List.mem_of_getElem? (i := 224) rfl)) rfl
theorem nq_567 : Cond.selects RX4 yX4_heldAt yX4_heldAt ∈ wsG := mg (mt_2 _ (List.mem_of_getElem? (i := 225) rfl)) rfl
theorem nq_568 : Cond.code yX4_heldAt cX4_heldAt 2 (some .int) ∈ wsG := mg (mt_2 _ (List.mem_of_getElem? (i := 226) rfl)) rfl
theorem nq_569 : Cond.methodLink RX3 45 yX4_aboutAt ∈ wsG := mg (mt_2 _ (List.mem_of_getElem? (i := 227) rfl)) rfl
theorem nq_570 : Cond.methodLink RX8 165 yX3_between ∈ wsG := mg (mt_2 _ (List.mem_of_getElem? (i := 228) rfl)) rfl
theorem nq_571 : Cond.instanceMethod yX3_between ∈ wsG := mg (mt_2 _ (List.mem_of_getElem? (i := 229) rfl)) rfl
theorem nq_572 : Cond.selects RX3 yX3_between yX3_between ∈ wsG := mg (mt_2 _ (List.mem_of_getElem? (i := 230) rfl)) rfl
theorem nq_573 : Cond.code yX3_between cX3_between 5 (some .int) ∈ wsG := mg (mt_2 _ (List.mem_of_getElem? (i := 231) rfl)) rfl
theorem nq_574 : Cond.methodLink RL 64 yX9_edges ∈ wsG := mg (mt_4 _ (List.mem_of_getElem? (i := 231) rfl)) rfl
theorem nq_575 : Cond.instanceMethod yX9_edges ∈ wsG := mg (mt_4 _ (List.mem_of_getElem? (i := 232) rfl)) rfl
theorem nq_576 : Cond.selects RX9 yX9_edges yX9_edges ∈ wsG := mg (mt_4 _ (List.mem_of_getElem? (i := 233) rfl)) rfl
theorem nq_577 : Cond.code yX9_edges cX9_edges 4 (some .int) ∈ wsG := mg (mt_4 _ (List.mem_of_getElem? (i := 234) rfl)) rfl
theorem nq_578 : Cond.constantLong RX9 244 (16) ∈ wsG := mg (mt_4 _ (List.mem_of_getElem? (i := 235) rfl)) rfl
theorem nq_579 : Cond.fieldLink RX9 241 "LockWatchModel" "manyEdges" "I" ∈ wsG := mg (mt_3 _ (List.mem_of_getElem? (i := 188) rfl)) rfl
theorem nq_580 : Cond.methodLink RX9 246 yX9_findEdges ∈ wsG := mg (mt_4 _ (List.mem_of_getElem? (i := 236) rfl)) rfl
theorem nq_581 : Cond.instanceMethod yX9_findEdges ∈ wsG := mg (mt_4 _ (List.mem_of_getElem? (i := 238) rfl)) rfl
theorem nq_582 : Cond.selects RX9 yX9_findEdges yX9_findEdges ∈ wsG := mg (mp_3 (_, 39) (List.mem_of_getElem? (i := 12) rfl)) rfl
theorem nq_583 : Cond.code yX9_findEdges cX9_findEdges 4 none ∈ wsG := mg (mt_4 _ (List.mem_of_getElem? (i := 239) rfl)) rfl
theorem nq_584 : Cond.methodLink RL 65 yX8_rings ∈ wsG := mg (mt_2 _ (List.mem_of_getElem? (i := 232) rfl)) rfl
theorem nq_585 : Cond.instanceMethod yX8_rings ∈ wsG := mg (mt_2 _ (List.mem_of_getElem? (i := 233) rfl)) rfl
theorem nq_586 : Cond.selects RX8 yX8_rings yX8_rings ∈ wsG := mg (mt_2 _ (List.mem_of_getElem? (i := 234) rfl)) rfl
theorem nq_587 : Cond.code yX8_rings cX8_rings 3 (some .int) ∈ wsG := mg (mt_2 _ (List.mem_of_getElem? (i := 235) rfl)) rfl
theorem nq_588 : Cond.methodLink RX8 169 yX3_find ∈ wsG := mg (mt_2 _ (List.mem_of_getElem? (i := 236) rfl)) rfl
theorem nq_589 : Cond.instanceMethod yX3_find ∈ wsG := mg (mt_2 _ (List.mem_of_getElem? (i := 237) rfl)) rfl
theorem nq_590 : Cond.selects RX3 yX3_find yX3_find ∈ wsG := mg (mt_2 _ (List.mem_of_getElem? (i := 238) rfl)) rfl
theorem nq_591 : Cond.code yX3_find cX3_find 3 none ∈ wsG := mg (mt_2 _ (List.mem_of_getElem? (i := 239) rfl)) rfl
theorem nq_592 : Cond.methodLink RX3 48 yX3_collect ∈ wsG := mg (mt_3 _ (List.mem_of_getElem? (i := 0) rfl)) rfl
theorem nq_593 : Cond.methodLink RX3 52 yJ7_fill_53178 ∈ wsG := mg (mt_3 _ (List.mem_of_getElem? (i := 1) rfl)) rfl
theorem nq_594 : Cond.methodLink RX3 58 yX4_threadAt ∈ wsG := mg (mt_3 _ (List.mem_of_getElem? (i := 2) rfl)) rfl
theorem nq_595 : Cond.methodLink RX3 61 yX3_grow ∈ wsG := mg (mt_3 _ (List.mem_of_getElem? (i := 3) rfl)) rfl
theorem nq_596 : Cond.static yX3_grow ∈ wsG := mg (mt_3 _ (List.mem_of_getElem? (i := 4) rfl)) rfl
theorem nq_597 : Cond.code yX3_grow cX3_grow 9 none ∈ wsG := mg (mt_3 _ (List.mem_of_getElem? (i := 5) rfl)) rfl
theorem nq_598 : Cond.methodLink RX3 65 yX3_links ∈ wsG := mg (mt_3 _ (List.mem_of_getElem? (i := 6) rfl)) rfl
theorem nq_599 : Cond.instanceMethod yX3_links ∈ wsG := mg (mt_3 _ (List.mem_of_getElem? (i := 8) rfl)) rfl
theorem nq_600 : Cond.selects RX3 yX3_links yX3_links ∈ wsG := mg (mp_1 (_, 7) (List.mem_of_getElem? (i := 6) rfl)) rfl
theorem nq_601 : Cond.code yX3_links cX3_links 6 (some .boolean) ∈ wsG := mg (mt_3 _ (List.mem_of_getElem? (i := 9) rfl)) rfl
theorem nq_602 : Cond.methodLink RX3 73 yX4_signAt ∈ wsG := mg (mt_3 _ (List.mem_of_getElem? (i := 10) rfl)) rfl
theorem nq_603 : Cond.methodLink RX3 69 yX3_tallyRing ∈ wsG := mg (mt_3 _ (List.mem_of_getElem? (i := 11) rfl)) rfl
theorem nq_604 : Cond.instanceMethod yX3_tallyRing ∈ wsG := mg (mt_3 _ (List.mem_of_getElem? (i := 13) rfl)) rfl
theorem nq_605 : Cond.selects RX3 yX3_tallyRing yX3_tallyRing ∈ wsG := mg (mp_1 (_, 7) (List.mem_of_getElem? (i := 7) rfl)) rfl
theorem nq_606 : Cond.code yX3_tallyRing cX3_tallyRing 10 none ∈ wsG := mg (mt_3 _ (List.mem_of_getElem? (i := 14) rfl)) rfl
theorem nq_607 : Cond.methodLink RX3 86 Lib.Math.min.name ∈ wsG := mg (mt_3 _ (List.mem_of_getElem? (i := 16) rfl)) rfl
theorem nq_608 : Cond.static Lib.Math.min.name ∈ wsG := mg (mt_3 _ (List.mem_of_getElem? (i := 17) rfl)) rfl
theorem nq_609 : Cond.initialized "java/lang/Math" ∈ wsG := mg (mt_1 _ (List.mem_of_getElem? (i := 12) rfl)) rfl
theorem nq_610 : Cond.code Lib.Math.min.name Lib.Math.min.code 2 (some .int) ∈ wsG := mg (mt_3 _ (List.mem_of_getElem? (i := 18) rfl)) rfl
theorem nq_611 : Cond.methodLink RX3 82 yX4_isAhead ∈ wsG := mg (mt_3 _ (List.mem_of_getElem? (i := 15) rfl)) rfl
theorem nq_612 : Cond.methodLink RL 68 yX9_rings ∈ wsG := mg (mt_5 _ (List.mem_of_getElem? (i := 0) rfl)) rfl
theorem nq_613 : Cond.instanceMethod yX9_rings ∈ wsG := mg (mt_5 _ (List.mem_of_getElem? (i := 1) rfl)) rfl
theorem nq_614 : Cond.selects RX9 yX9_rings yX9_rings ∈ wsG := mg (mt_5 _ (List.mem_of_getElem? (i := 2) rfl)) rfl
theorem nq_615 : Cond.code yX9_rings cX9_rings 3 (some .int) ∈ wsG := mg (mt_5 _ (List.mem_of_getElem? (i := 3) rfl)) rfl
theorem nq_616 : Cond.constantLong RX9 281 (2) ∈ wsG := mg (mt_5 _ (List.mem_of_getElem? (i := 4) rfl)) rfl
theorem nq_617 : Cond.methodLink RX9 283 yX9_findRings ∈ wsG := mg (mt_5 _ (List.mem_of_getElem? (i := 5) rfl)) rfl
theorem nq_618 : Cond.instanceMethod yX9_findRings ∈ wsG := mg (mt_5 _ (List.mem_of_getElem? (i := 7) rfl)) rfl
theorem nq_619 : Cond.selects RX9 yX9_findRings yX9_findRings ∈ wsG := mg (mp_3 (_, 39) (List.mem_of_getElem? (i := 13) rfl)) rfl
theorem nq_620 : Cond.code yX9_findRings cX9_findRings 4 none ∈ wsG := mg (mt_5 _ (List.mem_of_getElem? (i := 8) rfl)) rfl
theorem nq_621 : Cond.fieldLink RX9 249 "LockWatchModel" "level1" "I" ∈ wsG := mg (mt_3 _ (List.mem_of_getElem? (i := 192) rfl)) rfl
theorem nq_622 : Cond.constantLong RX9 261 (-9) ∈ wsG := mg (mt_5 _ (List.mem_of_getElem? (i := 9) rfl)) rfl
theorem nq_623 : Cond.fieldLink RX9 257 "LockWatchModel" "firstRow" "J" ∈ wsG := mg (mt_3 _ (List.mem_of_getElem? (i := 198) rfl)) rfl
theorem nq_624 : Cond.methodLink RX9 272 yX9_goesOn ∈ wsG := mg (mt_5 _ (List.mem_of_getElem? (i := 10) rfl)) rfl
theorem nq_625 : Cond.instanceMethod yX9_goesOn ∈ wsG := mg (mt_5 _ (List.mem_of_getElem? (i := 12) rfl)) rfl
theorem nq_626 : Cond.selects RX9 yX9_goesOn yX9_goesOn ∈ wsG := mg (mp_3 (_, 39) (List.mem_of_getElem? (i := 14) rfl)) rfl
theorem nq_627 : Cond.code yX9_goesOn cX9_goesOn 3 (some .boolean) ∈ wsG := mg (mt_5 _ (List.mem_of_getElem? (i := 13) rfl)) rfl
theorem nq_628 : Cond.methodLink RX9 263 yX9_follows ∈ wsG := mg (mt_5 _ (List.mem_of_getElem? (i := 14) rfl)) rfl
theorem nq_629 : Cond.instanceMethod yX9_follows ∈ wsG := mg (mt_5 _ (List.mem_of_getElem? (i := 16) rfl)) rfl
theorem nq_630 : Cond.selects RX9 yX9_follows yX9_follows ∈ wsG := mg (mp_3 (_, 39) (List.mem_of_getElem? (i := 15) rfl)) rfl
theorem nq_631 : Cond.code yX9_follows cX9_follows 4 (some .boolean) ∈ wsG := mg (mt_5 _ (List.mem_of_getElem? (i := 17) rfl)) rfl
theorem nq_632 : Cond.methodLink RX9 269 yX9_isUnlike ∈ wsG := mg (mt_5 _ (List.mem_of_getElem? (i := 18) rfl)) rfl
theorem nq_633 : Cond.instanceMethod yX9_isUnlike ∈ wsG := mg (mt_5 _ (List.mem_of_getElem? (i := 20) rfl)) rfl
theorem nq_634 : Cond.selects RX9 yX9_isUnlike yX9_isUnlike ∈ wsG := mg (mp_4 (_, 39) (List.mem_of_getElem? (i := 0) rfl)) rfl
theorem nq_635 : Cond.code yX9_isUnlike cX9_isUnlike 5 (some .boolean) ∈ wsG := mg (mt_5 _ (List.mem_of_getElem? (i := 21) rfl)) rfl
theorem nq_636 : Cond.methodLink RX9 275 yX9_close ∈ wsG := mg (mt_5 _ (List.mem_of_getElem? (i := 22) rfl)) rfl
theorem nq_637 : Cond.instanceMethod yX9_close ∈ wsG := mg (mt_5 _ (List.mem_of_getElem? (i := 24) rfl)) rfl
theorem nq_638 : Cond.selects RX9 yX9_close yX9_close ∈ wsG := mg (mp_4 (_, 39) (List.mem_of_getElem? (i := 1) rfl)) rfl
theorem nq_639 : Cond.code yX9_close cX9_close 2 none ∈ wsG := mg (mt_5 _ (List.mem_of_getElem? (i := 25) rfl)) rfl
theorem nq_640 : Cond.methodLink RX9 266 yX9_takeRing ∈ wsG := mg (mt_5 _ (List.mem_of_getElem? (i := 26) rfl)) rfl
theorem nq_641 : Cond.instanceMethod yX9_takeRing ∈ wsG := mg (mt_5 _ (List.mem_of_getElem? (i := 28) rfl)) rfl
theorem nq_642 : Cond.selects RX9 yX9_takeRing yX9_takeRing ∈ wsG := mg (mp_4 (_, 39) (List.mem_of_getElem? (i := 2) rfl)) rfl
theorem nq_643 : Cond.code yX9_takeRing cX9_takeRing 8 none ∈ wsG := mg (mt_5 _ (List.mem_of_getElem? (i := 29) rfl)) rfl
theorem nq_644 : Cond.constantLong RX9 255 (100) ∈ wsG := mg (mt_5 _ (List.mem_of_getElem? (i := 34) rfl)) rfl
theorem nq_645 : Cond.methodLink RX9 252 yX9_areGated ∈ wsG := mg (mt_5 _ (List.mem_of_getElem? (i := 30) rfl)) rfl
theorem nq_646 : Cond.instanceMethod yX9_areGated ∈ wsG := mg (mt_5 _ (List.mem_of_getElem? (i := 32) rfl)) rfl
theorem nq_647 : Cond.selects RX9 yX9_areGated yX9_areGated ∈ wsG := mg (mp_4 (_, 39) (List.mem_of_getElem? (i := 3) rfl)) rfl
theorem nq_648 : Cond.code yX9_areGated cX9_areGated 4 (some .boolean) ∈ wsG := mg (mt_5 _ (List.mem_of_getElem? (i := 33) rfl)) rfl
theorem nq_649 : Cond.methodLink RX9 278 yX9_findLonger ∈ wsG := mg (mt_5 _ (List.mem_of_getElem? (i := 35) rfl)) rfl
theorem nq_650 : Cond.instanceMethod yX9_findLonger ∈ wsG := mg (mt_5 _ (List.mem_of_getElem? (i := 37) rfl)) rfl
theorem nq_651 : Cond.selects RX9 yX9_findLonger yX9_findLonger ∈ wsG := mg (mp_4 (_, 39) (List.mem_of_getElem? (i := 4) rfl)) rfl
theorem nq_652 : Cond.code yX9_findLonger cX9_findLonger 3 none ∈ wsG := mg (mt_5 _ (List.mem_of_getElem? (i := 38) rfl)) rfl
theorem nq_653 : Cond.methodLink RL 69 yX8_first ∈ wsG := mg (mt_3 _ (List.mem_of_getElem? (i := 19) rfl)) rfl
theorem nq_654 : Cond.instanceMethod yX8_first ∈ wsG := mg (mt_3 _ (List.mem_of_getElem? (i := 20) rfl)) rfl
theorem nq_655 : Cond.selects RX8 yX8_first yX8_first ∈ wsG := mg (mt_3 _ (List.mem_of_getElem? (i := 21) rfl)) rfl
theorem nq_656 : Cond.code yX8_first cX8_first 1 (some .int) ∈ wsG := mg (mt_3 _ (List.mem_of_getElem? (i := 22) rfl)) rfl
theorem nq_657 : Cond.methodLink RL 72 yX9_first ∈ wsG := mg (mt_5 _ (List.mem_of_getElem? (i := 39) rfl)) rfl
theorem nq_658 : Cond.instanceMethod yX9_first ∈ wsG := mg (mt_5 _ (List.mem_of_getElem? (i := 40) rfl)) rfl
theorem nq_659 : Cond.selects RX9 yX9_first yX9_first ∈ wsG := mg (mt_5 _ (List.mem_of_getElem? (i := 41) rfl)) rfl
theorem nq_660 : Cond.code yX9_first cX9_first 1 (some .int) ∈ wsG := mg (mt_5 _ (List.mem_of_getElem? (i := 42) rfl)) rfl
theorem nq_661 : Cond.methodLink RL 75 yX8_judge ∈ wsG := mg (mt_3 _ (List.mem_of_getElem? (i := 23) rfl)) rfl
theorem nq_662 : Cond.instanceMethod yX8_judge ∈ wsG := mg (mt_3 _ (List.mem_of_getElem? (i := 24) rfl)) rfl
theorem nq_663 : Cond.selects RX8 yX8_judge yX8_judge ∈ wsG := mg (mt_3 _ (List.mem_of_getElem? (i := 25) rfl)) rfl
theorem nq_664 : Cond.code yX8_judge cX8_judge 6 (some .int) ∈ wsG := mg (mt_3 _ (List.mem_of_getElem? (i := 26) rfl)) rfl
theorem nq_665 : Cond.fieldLink RX8 178 "LockWatch" "DOINGS" "[J" ∈ wsG := mg (mt_3 _ (List.mem_of_getElem? (i := 27) rfl)) rfl
theorem nq_666 : Cond.methodLink RX8 182 yX8_canBe ∈ wsG := mg (mt_3 _ (List.mem_of_getElem? (i := 29) rfl)) rfl
theorem nq_667 : Cond.instanceMethod yX8_canBe ∈ wsG := mg (mt_3 _ (List.mem_of_getElem? (i := 31) rfl)) rfl
theorem nq_668 : Cond.selects RX8 yX8_canBe yX8_canBe ∈ wsG := mg (mp_1 (_, 10) (List.mem_of_getElem? (i := 8) rfl)) rfl
theorem nq_669 : Cond.code yX8_canBe cX8_canBe 4 (some .boolean) ∈ wsG := mg (mt_3 _ (List.mem_of_getElem? (i := 32) rfl)) rfl
theorem nq_670 : Cond.methodLink RX8 263 yX8_isCellSo ∈ wsG := mg (mt_3 _ (List.mem_of_getElem? (i := 33) rfl)) rfl
theorem nq_671 : Cond.instanceMethod yX8_isCellSo ∈ wsG := mg (mt_3 _ (List.mem_of_getElem? (i := 35) rfl)) rfl
theorem nq_672 : Cond.selects RX8 yX8_isCellSo yX8_isCellSo ∈ wsG := mg (mp_1 (_, 10) (List.mem_of_getElem? (i := 9) rfl)) rfl
theorem nq_673 : Cond.code yX8_isCellSo cX8_isCellSo 7 (some .boolean) ∈ wsG := mg (mt_3 _ (List.mem_of_getElem? (i := 36) rfl)) rfl
theorem nq_674 : Cond.methodLink RX8 267 yX8_areFeasible ∈ wsG := mg (mt_3 _ (List.mem_of_getElem? (i := 37) rfl)) rfl
theorem nq_675 : Cond.instanceMethod yX8_areFeasible ∈ wsG := mg (mt_3 _ (List.mem_of_getElem? (i := 39) rfl)) rfl
theorem nq_676 : Cond.selects RX8 yX8_areFeasible yX8_areFeasible ∈ wsG := mg (mp_1 (_, 10) (List.mem_of_getElem? (i := 10) rfl)) rfl
theorem nq_677 : Cond.code yX8_areFeasible cX8_areFeasible 2 (some .boolean) ∈ wsG := mg (mt_3 _ (List.mem_of_getElem? (i := 40) rfl)) rfl
theorem nq_678 : Cond.methodLink RX8 260 yX3_feasible ∈ wsG := mg (mt_3 _ (List.mem_of_getElem? (i := 41) rfl)) rfl
theorem nq_679 : Cond.instanceMethod yX3_feasible ∈ wsG := mg (mt_3 _ (List.mem_of_getElem? (i := 42) rfl)) rfl
theorem nq_680 : Cond.selects RX3 yX3_feasible yX3_feasible ∈ wsG := mg (mt_3 _ (List.mem_of_getElem? (i := 43) rfl)) rfl
theorem nq_681 : Cond.code yX3_feasible cX3_feasible 3 (some .int) ∈ wsG := mg (mt_3 _ (List.mem_of_getElem? (i := 44) rfl)) rfl
theorem nq_682 : Cond.methodLink RX8 270 yX4_heldAt ∈ wsG := mg (mt_3 _ (List.mem_of_getElem? (i := 45) rfl)) rfl
theorem nq_683 : Cond.methodLink RL 79 yX9_judge ∈ wsG := mg (mt_5 _ (List.mem_of_getElem? (i := 43) rfl)) rfl
theorem nq_684 : Cond.instanceMethod yX9_judge ∈ wsG := mg (mt_5 _ (List.mem_of_getElem? (i := 44) rfl)) rfl
theorem nq_685 : Cond.selects RX9 yX9_judge yX9_judge ∈ wsG := mg (mt_5 _ (List.mem_of_getElem? (i := 45) rfl)) rfl
theorem nq_686 : Cond.code yX9_judge cX9_judge 6 (some .int) ∈ wsG := mg (mt_5 _ (List.mem_of_getElem? (i := 46) rfl)) rfl
theorem nq_687 : Cond.constantLong RX9 295 (10000) ∈ wsG := mg (mt_5 _ (List.mem_of_getElem? (i := 50) rfl)) rfl
theorem nq_688 : Cond.methodLink RX9 297 yX9_tenThousandTo ∈ wsG := mg (mt_5 _ (List.mem_of_getElem? (i := 47) rfl)) rfl
theorem nq_689 : Cond.static yX9_tenThousandTo ∈ wsG := mg (mt_5 _ (List.mem_of_getElem? (i := 48) rfl)) rfl
theorem nq_690 : Cond.code yX9_tenThousandTo cX9_tenThousandTo 4 (some .long) ∈ wsG := mg (mt_5 _ (List.mem_of_getElem? (i := 49) rfl)) rfl
theorem nq_691 : Cond.methodLink RX9 301 yX9_tryThing ∈ wsG := mg (mt_5 _ (List.mem_of_getElem? (i := 51) rfl)) rfl
theorem nq_692 : Cond.instanceMethod yX9_tryThing ∈ wsG := mg (mt_5 _ (List.mem_of_getElem? (i := 53) rfl)) rfl
theorem nq_693 : Cond.selects RX9 yX9_tryThing yX9_tryThing ∈ wsG := mg (mp_4 (_, 39) (List.mem_of_getElem? (i := 5) rfl)) rfl
theorem nq_694 : Cond.code yX9_tryThing cX9_tryThing 8 (some .boolean) ∈ wsG := mg (mt_5 _ (List.mem_of_getElem? (i := 54) rfl)) rfl
theorem nq_695 : Cond.methodLink RX9 292 yX9_isSo ∈ wsG := mg (mt_5 _ (List.mem_of_getElem? (i := 55) rfl)) rfl
theorem nq_696 : Cond.instanceMethod yX9_isSo ∈ wsG := mg (mt_5 _ (List.mem_of_getElem? (i := 57) rfl)) rfl
theorem nq_697 : Cond.selects RX9 yX9_isSo yX9_isSo ∈ wsG := mg (mp_4 (_, 39) (List.mem_of_getElem? (i := 6) rfl)) rfl
theorem nq_698 : Cond.code yX9_isSo cX9_isSo 4 (some .boolean) ∈ wsG := mg (mt_5 _ (List.mem_of_getElem? (i := 58) rfl)) rfl
theorem nq_699 : Cond.methodLink RX9 286 yX9_flaggedOn ∈ wsG := mg (mt_5 _ (List.mem_of_getElem? (i := 59) rfl)) rfl
theorem nq_700 : Cond.instanceMethod yX9_flaggedOn ∈ wsG := mg (mt_5 _ (List.mem_of_getElem? (i := 61) rfl)) rfl
theorem nq_701 : Cond.selects RX9 yX9_flaggedOn yX9_flaggedOn ∈ wsG := mg (mp_4 (_, 39) (List.mem_of_getElem? (i := 7) rfl)) rfl
theorem nq_702 : Cond.code yX9_flaggedOn cX9_flaggedOn 5 (some .int) ∈ wsG := mg (mt_5 _ (List.mem_of_getElem? (i := 62) rfl)) rfl
theorem nq_703 : Cond.methodLink RX9 289 yX9_feasibleOn ∈ wsG := mg (mt_5 _ (List.mem_of_getElem? (i := 63) rfl)) rfl
theorem nq_704 : Cond.instanceMethod yX9_feasibleOn ∈ wsG := mg (mt_5 _ (List.mem_of_getElem? (i := 65) rfl)) rfl
theorem nq_705 : Cond.selects RX9 yX9_feasibleOn yX9_feasibleOn ∈ wsG := mg (mp_4 (_, 39) (List.mem_of_getElem? (i := 8) rfl)) rfl
theorem nq_706 : Cond.code yX9_feasibleOn cX9_feasibleOn 2 (some .int) ∈ wsG := mg (mt_5 _ (List.mem_of_getElem? (i := 66) rfl)) rfl
theorem nq_707 : Cond.methodLink RL 80 yX8_see ∈ wsG := mg (mt_3 _ (List.mem_of_getElem? (i := 46) rfl)) rfl
theorem nq_708 : Cond.instanceMethod yX8_see ∈ wsG := mg (mt_3 _ (List.mem_of_getElem? (i := 47) rfl)) rfl
theorem nq_709 : Cond.selects RX8 yX8_see yX8_see ∈ wsG := mg (mt_3 _ (List.mem_of_getElem? (i := 48) rfl)) rfl
theorem nq_710 : Cond.code yX8_see cX8_see 4 (some .int) ∈ wsG := mg (mt_3 _ (List.mem_of_getElem? (i := 49) rfl)) rfl
theorem nq_711 : Cond.methodLink RX8 185 yX5_put ∈ wsG := mg (mt_3 _ (List.mem_of_getElem? (i := 50) rfl)) rfl
theorem nq_712 : Cond.instanceMethod yX5_put ∈ wsG := mg (mt_3 _ (List.mem_of_getElem? (i := 51) rfl)) rfl
theorem nq_713 : Cond.selects RX5 yX5_put yX5_put ∈ wsG := mg (mt_3 _ (List.mem_of_getElem? (i := 52) rfl)) rfl
theorem nq_714 : Cond.code yX5_put cX5_put 4 (some .boolean) ∈ wsG := mg (mt_3 _ (List.mem_of_getElem? (i := 53) rfl)) rfl
theorem nq_715 : Cond.fieldLink RX5 22 "LockWatch$Seen" "size" "I" ∈ wsG := mg (mt_1 _ (List.mem_of_getElem? (i := 147) rfl)) rfl
theorem nq_716 : Cond.methodLink RL 83 yX9_see ∈ wsG := mg (mt_5 _ (List.mem_of_getElem? (i := 67) rfl)) rfl
theorem nq_717 : Cond.instanceMethod yX9_see ∈ wsG := mg (mt_5 _ (List.mem_of_getElem? (i := 68) rfl)) rfl
theorem nq_718 : Cond.selects RX9 yX9_see yX9_see ∈ wsG := mg (mt_5 _ (List.mem_of_getElem? (i := 69) rfl)) rfl
theorem nq_719 : Cond.code yX9_see cX9_see 4 (some .int) ∈ wsG := mg (mt_5 _ (List.mem_of_getElem? (i := 70) rfl)) rfl
theorem nq_720 : Cond.fieldLink RX9 304 "LockWatchModel" "seen" "I" ∈ wsG := mg (mt_3 _ (List.mem_of_getElem? (i := 200) rfl)) rfl
theorem nq_721 : Cond.methodLink RL 84 yX8_unsee ∈ wsG := mg (mt_3 _ (List.mem_of_getElem? (i := 54) rfl)) rfl
theorem nq_722 : Cond.instanceMethod yX8_unsee ∈ wsG := mg (mt_3 _ (List.mem_of_getElem? (i := 55) rfl)) rfl
theorem nq_723 : Cond.selects RX8 yX8_unsee yX8_unsee ∈ wsG := mg (mt_3 _ (List.mem_of_getElem? (i := 56) rfl)) rfl
theorem nq_724 : Cond.code yX8_unsee cX8_unsee 2 (some .int) ∈ wsG := mg (mt_3 _ (List.mem_of_getElem? (i := 57) rfl)) rfl
theorem nq_725 : Cond.methodLink RL 87 yX9_unsee ∈ wsG := mg (mt_5 _ (List.mem_of_getElem? (i := 71) rfl)) rfl
theorem nq_726 : Cond.instanceMethod yX9_unsee ∈ wsG := mg (mt_5 _ (List.mem_of_getElem? (i := 72) rfl)) rfl
theorem nq_727 : Cond.selects RX9 yX9_unsee yX9_unsee ∈ wsG := mg (mt_5 _ (List.mem_of_getElem? (i := 73) rfl)) rfl
theorem nq_728 : Cond.code yX9_unsee cX9_unsee 2 (some .int) ∈ wsG := mg (mt_5 _ (List.mem_of_getElem? (i := 74) rfl)) rfl
theorem nq_729 : Cond.methodLink RL 88 yX8_which ∈ wsG := mg (mt_3 _ (List.mem_of_getElem? (i := 58) rfl)) rfl
theorem nq_730 : Cond.instanceMethod yX8_which ∈ wsG := mg (mt_3 _ (List.mem_of_getElem? (i := 59) rfl)) rfl
theorem nq_731 : Cond.selects RX8 yX8_which yX8_which ∈ wsG := mg (mt_3 _ (List.mem_of_getElem? (i := 60) rfl)) rfl
theorem nq_732 : Cond.code yX8_which cX8_which 2 (some .int) ∈ wsG := mg (mt_3 _ (List.mem_of_getElem? (i := 61) rfl)) rfl
theorem nq_733 : Cond.methodLink RX8 189 yX5_fittingCount ∈ wsG := mg (mt_3 _ (List.mem_of_getElem? (i := 62) rfl)) rfl
theorem nq_734 : Cond.instanceMethod yX5_fittingCount ∈ wsG := mg (mt_3 _ (List.mem_of_getElem? (i := 63) rfl)) rfl
theorem nq_735 : Cond.selects RX5 yX5_fittingCount yX5_fittingCount ∈ wsG := mg (mt_3 _ (List.mem_of_getElem? (i := 64) rfl)) rfl
theorem nq_736 : Cond.code yX5_fittingCount cX5_fittingCount 4 (some .int) ∈ wsG := mg (mt_3 _ (List.mem_of_getElem? (i := 65) rfl)) rfl
theorem nq_737 : Cond.methodLink RX5 43 yX5_fits ∈ wsG := mg (mt_3 _ (List.mem_of_getElem? (i := 66) rfl)) rfl
theorem nq_738 : Cond.instanceMethod yX5_fits ∈ wsG := mg (mt_3 _ (List.mem_of_getElem? (i := 68) rfl)) rfl
theorem nq_739 : Cond.selects RX5 yX5_fits yX5_fits ∈ wsG := mg (mp_1 (_, 4) (List.mem_of_getElem? (i := 11) rfl)) rfl
theorem nq_740 : Cond.code yX5_fits cX5_fits 5 (some .boolean) ∈ wsG := mg (mt_3 _ (List.mem_of_getElem? (i := 69) rfl)) rfl
theorem nq_741 : Cond.methodLink RX5 26 yX4_isTouch ∈ wsG := mg (mt_3 _ (List.mem_of_getElem? (i := 70) rfl)) rfl
theorem nq_742 : Cond.methodLink RX5 33 yX1_watch ∈ wsG := mg (mt_3 _ (List.mem_of_getElem? (i := 71) rfl)) rfl
theorem nq_743 : Cond.methodLink RX5 39 yX1_stateOf ∈ wsG := mg (mt_3 _ (List.mem_of_getElem? (i := 72) rfl)) rfl
theorem nq_744 : Cond.methodLink RX8 192 yX5_leastFitting ∈ wsG := mg (mt_3 _ (List.mem_of_getElem? (i := 73) rfl)) rfl
theorem nq_745 : Cond.instanceMethod yX5_leastFitting ∈ wsG := mg (mt_3 _ (List.mem_of_getElem? (i := 74) rfl)) rfl
theorem nq_746 : Cond.selects RX5 yX5_leastFitting yX5_leastFitting ∈ wsG := mg (mt_3 _ (List.mem_of_getElem? (i := 75) rfl)) rfl
theorem nq_747 : Cond.code yX5_leastFitting cX5_leastFitting 3 (some .int) ∈ wsG := mg (mt_3 _ (List.mem_of_getElem? (i := 76) rfl)) rfl
theorem nq_748 : Cond.methodLink RL 91 yX9_which ∈ wsG := mg (mt_5 _ (List.mem_of_getElem? (i := 75) rfl)) rfl
theorem nq_749 : Cond.instanceMethod yX9_which ∈ wsG := mg (mt_5 _ (List.mem_of_getElem? (i := 76) rfl)) rfl
theorem nq_750 : Cond.selects RX9 yX9_which yX9_which ∈ wsG := mg (mt_5 _ (List.mem_of_getElem? (i := 77) rfl)) rfl
theorem nq_751 : Cond.code yX9_which cX9_which 7 (some .int) ∈ wsG := mg (mt_5 _ (List.mem_of_getElem? (i := 78) rfl)) rfl
theorem nq_752 : Cond.methodLink RL 92 yX8_share ∈ wsG := mg (mt_3 _ (List.mem_of_getElem? (i := 77) rfl)) rfl
theorem nq_753 : Cond.instanceMethod yX8_share ∈ wsG := mg (mt_3 _ (List.mem_of_getElem? (i := 78) rfl)) rfl
theorem nq_754 : Cond.selects RX8 yX8_share yX8_share ∈ wsG := mg (mt_3 _ (List.mem_of_getElem? (i := 79) rfl)) rfl
theorem nq_755 : Cond.code yX8_share cX8_share 7 (some .int) ∈ wsG := mg (mt_3 _ (List.mem_of_getElem? (i := 80) rfl)) rfl
theorem nq_756 : Cond.fieldLink RX8 198 "LockWatch" "ORDERS" "[I" ∈ wsG := mg (mt_3 _ (List.mem_of_getElem? (i := 94) rfl)) rfl
theorem nq_757 : Cond.constantLong RX8 206 (24) ∈ wsG := mg (mt_3 _ (List.mem_of_getElem? (i := 97) rfl)) rfl
theorem nq_758 : Cond.methodLink RX8 195 yX1_flaggedCount ∈ wsG := mg (mt_3 _ (List.mem_of_getElem? (i := 81) rfl)) rfl
theorem nq_759 : Cond.static yX1_flaggedCount ∈ wsG := mg (mt_3 _ (List.mem_of_getElem? (i := 82) rfl)) rfl
theorem nq_760 : Cond.code yX1_flaggedCount cX1_flaggedCount 2 (some .int) ∈ wsG := mg (mt_3 _ (List.mem_of_getElem? (i := 83) rfl)) rfl
theorem nq_761 : Cond.methodLink RX1 44 yX1_flaggedBits ∈ wsG := mg (mt_3 _ (List.mem_of_getElem? (i := 84) rfl)) rfl
theorem nq_762 : Cond.static yX1_flaggedBits ∈ wsG := mg (mt_3 _ (List.mem_of_getElem? (i := 85) rfl)) rfl
theorem nq_763 : Cond.code yX1_flaggedBits cX1_flaggedBits 4 (some .int) ∈ wsG := mg (mt_3 _ (List.mem_of_getElem? (i := 86) rfl)) rfl
theorem nq_764 : Cond.methodLink RX1 40 yX1_watch ∈ wsG := mg (mt_3 _ (List.mem_of_getElem? (i := 87) rfl)) rfl
theorem nq_765 : Cond.methodLink RX1 48 yJ6_bitCount_0f7a4 ∈ wsG := mg (mt_3 _ (List.mem_of_getElem? (i := 88) rfl)) rfl
theorem nq_766 : Cond.static yJ6_bitCount_0f7a4 ∈ wsG := mg (mt_3 _ (List.mem_of_getElem? (i := 89) rfl)) rfl
theorem nq_767 : Cond.initialized RJ6 ∈ wsG := mg (mt_1 _ (List.mem_of_getElem? (i := 13) rfl)) rfl
theorem nq_768 : Cond.code yJ6_bitCount_0f7a4 cJ6_bitCount_0f7a4 1 (some .int) ∈ wsG := mg (mt_3 _ (List.mem_of_getElem? (i := 90) rfl)) rfl
theorem nq_769 : Cond.constant RJ6 265 (1431655765) ∈ wsG := mg (mt_3 _ (List.mem_of_getElem? (i := 91) rfl)) rfl
theorem nq_770 : Cond.constant RJ6 266 (858993459) ∈ wsG := mg (mt_3 _ (List.mem_of_getElem? (i := 92) rfl)) rfl
theorem nq_771 : Cond.constant RJ6 267 (252645135) ∈ wsG := mg (mt_3 _ (List.mem_of_getElem? (i := 93) rfl)) rfl
theorem nq_772 : Cond.methodLink RX8 201 yJ6_bitCount_0f7a4 ∈ wsG := mg (mt_3 _ (List.mem_of_getElem? (i := 96) rfl)) rfl
theorem nq_773 : Cond.methodLink RX8 208 yX8_fraction ∈ wsG := mg (mt_3 _ (List.mem_of_getElem? (i := 98) rfl)) rfl
theorem nq_774 : Cond.static yX8_fraction ∈ wsG := mg (mt_3 _ (List.mem_of_getElem? (i := 99) rfl)) rfl
theorem nq_775 : Cond.code yX8_fraction cX8_fraction 12 (some .int) ∈ wsG := mg (mt_3 _ (List.mem_of_getElem? (i := 100) rfl)) rfl
theorem nq_776 : Cond.methodLink RL 96 yX9_share ∈ wsG := mg (mt_5 _ (List.mem_of_getElem? (i := 79) rfl)) rfl
theorem nq_777 : Cond.instanceMethod yX9_share ∈ wsG := mg (mt_5 _ (List.mem_of_getElem? (i := 80) rfl)) rfl
theorem nq_778 : Cond.selects RX9 yX9_share yX9_share ∈ wsG := mg (mt_5 _ (List.mem_of_getElem? (i := 81) rfl)) rfl
theorem nq_779 : Cond.code yX9_share cX9_share 6 (some .int) ∈ wsG := mg (mt_5 _ (List.mem_of_getElem? (i := 82) rfl)) rfl
theorem nq_780 : Cond.methodLink RX9 307 yX9_ones ∈ wsG := mg (mt_5 _ (List.mem_of_getElem? (i := 83) rfl)) rfl
theorem nq_781 : Cond.static yX9_ones ∈ wsG := mg (mt_5 _ (List.mem_of_getElem? (i := 84) rfl)) rfl
theorem nq_782 : Cond.code yX9_ones cX9_ones 3 (some .int) ∈ wsG := mg (mt_5 _ (List.mem_of_getElem? (i := 85) rfl)) rfl
theorem nq_783 : Cond.methodLink RX9 310 yX9_factorial ∈ wsG := mg (mt_5 _ (List.mem_of_getElem? (i := 86) rfl)) rfl
theorem nq_784 : Cond.static yX9_factorial ∈ wsG := mg (mt_5 _ (List.mem_of_getElem? (i := 87) rfl)) rfl
theorem nq_785 : Cond.code yX9_factorial cX9_factorial 3 (some .int) ∈ wsG := mg (mt_5 _ (List.mem_of_getElem? (i := 88) rfl)) rfl
theorem nq_786 : Cond.methodLink RX9 313 yX9_common ∈ wsG := mg (mt_5 _ (List.mem_of_getElem? (i := 89) rfl)) rfl
theorem nq_787 : Cond.static yX9_common ∈ wsG := mg (mt_5 _ (List.mem_of_getElem? (i := 90) rfl)) rfl
theorem nq_788 : Cond.code yX9_common cX9_common 5 (some .int) ∈ wsG := mg (mt_5 _ (List.mem_of_getElem? (i := 91) rfl)) rfl
theorem nq_789 : Cond.methodLink RL 97 yX8_lost ∈ wsG := mg (mt_3 _ (List.mem_of_getElem? (i := 101) rfl)) rfl
theorem nq_790 : Cond.instanceMethod yX8_lost ∈ wsG := mg (mt_3 _ (List.mem_of_getElem? (i := 102) rfl)) rfl
theorem nq_791 : Cond.selects RX8 yX8_lost yX8_lost ∈ wsG := mg (mt_3 _ (List.mem_of_getElem? (i := 103) rfl)) rfl
theorem nq_792 : Cond.code yX8_lost cX8_lost 4 (some .int) ∈ wsG := mg (mt_3 _ (List.mem_of_getElem? (i := 104) rfl)) rfl
theorem nq_793 : Cond.methodLink RX8 212 yX2_spread ∈ wsG := mg (mt_3 _ (List.mem_of_getElem? (i := 105) rfl)) rfl
theorem nq_794 : Cond.instanceMethod yX2_spread ∈ wsG := mg (mt_3 _ (List.mem_of_getElem? (i := 106) rfl)) rfl
theorem nq_795 : Cond.selects RX2 yX2_spread yX2_spread ∈ wsG := mg (mt_3 _ (List.mem_of_getElem? (i := 107) rfl)) rfl
theorem nq_796 : Cond.code yX2_spread cX2_spread 5 none ∈ wsG := mg (mt_3 _ (List.mem_of_getElem? (i := 108) rfl)) rfl
theorem nq_797 : Cond.constantLong RX2 44 (10) ∈ wsG := mg (mt_3 _ (List.mem_of_getElem? (i := 121) rfl)) rfl
theorem nq_798 : Cond.methodLink RX2 24 yJ7_fill_d0a16 ∈ wsG := mg (mt_3 _ (List.mem_of_getElem? (i := 109) rfl)) rfl
theorem nq_799 : Cond.static yJ7_fill_d0a16 ∈ wsG := mg (mt_3 _ (List.mem_of_getElem? (i := 110) rfl)) rfl
theorem nq_800 : Cond.code yJ7_fill_d0a16 cJ7_fill_d0a16 5 none ∈ wsG := mg (mt_3 _ (List.mem_of_getElem? (i := 111) rfl)) rfl
theorem nq_801 : Cond.methodLink RX2 36 yX4_touchesAt ∈ wsG := mg (mt_3 _ (List.mem_of_getElem? (i := 112) rfl)) rfl
theorem nq_802 : Cond.methodLink RX2 40 yX2_spreadTouch ∈ wsG := mg (mt_3 _ (List.mem_of_getElem? (i := 113) rfl)) rfl
theorem nq_803 : Cond.instanceMethod yX2_spreadTouch ∈ wsG := mg (mt_3 _ (List.mem_of_getElem? (i := 115) rfl)) rfl
theorem nq_804 : Cond.selects RX2 yX2_spreadTouch yX2_spreadTouch ∈ wsG := mg (mp_1 (_, 3) (List.mem_of_getElem? (i := 12) rfl)) rfl
theorem nq_805 : Cond.code yX2_spreadTouch cX2_spreadTouch 6 none ∈ wsG := mg (mt_3 _ (List.mem_of_getElem? (i := 116) rfl)) rfl
theorem nq_806 : Cond.methodLink RX2 50 arraycopyName ∈ wsG := mg (mt_3 _ (List.mem_of_getElem? (i := 118) rfl)) rfl
theorem nq_807 : Cond.native arraycopyName ∈ wsG := mg (mt_3 _ (List.mem_of_getElem? (i := 120) rfl)) rfl
theorem nq_808 : Cond.static arraycopyName ∈ wsG := mg (mt_3 _ (List.mem_of_getElem? (i := 119) rfl)) rfl
theorem nq_809 : Cond.initialized "java/lang/System" ∈ wsG := mg (mt_1 _ (List.mem_of_getElem? (i := 14) rfl)) rfl
theorem nq_810 : Cond.methodLink RX2 46 yX1_touch ∈ wsG := mg (mt_3 _ (List.mem_of_getElem? (i := 117) rfl)) rfl
theorem nq_811 : Cond.methodLink RX8 216 yX2_ofFlagged ∈ wsG := mg (mt_3 _ (List.mem_of_getElem? (i := 122) rfl)) rfl
theorem nq_812 : Cond.instanceMethod yX2_ofFlagged ∈ wsG := mg (mt_3 _ (List.mem_of_getElem? (i := 123) rfl)) rfl
theorem nq_813 : Cond.selects RX2 yX2_ofFlagged yX2_ofFlagged ∈ wsG := mg (mt_3 _ (List.mem_of_getElem? (i := 124) rfl)) rfl
theorem nq_814 : Cond.code yX2_ofFlagged cX2_ofFlagged 1 (some .long) ∈ wsG := mg (mt_3 _ (List.mem_of_getElem? (i := 125) rfl)) rfl
theorem nq_815 : Cond.methodLink RL 101 yX9_lost ∈ wsG := mg (mt_5 _ (List.mem_of_getElem? (i := 92) rfl)) rfl
theorem nq_816 : Cond.instanceMethod yX9_lost ∈ wsG := mg (mt_5 _ (List.mem_of_getElem? (i := 93) rfl)) rfl
theorem nq_817 : Cond.selects RX9 yX9_lost yX9_lost ∈ wsG := mg (mt_5 _ (List.mem_of_getElem? (i := 94) rfl)) rfl
theorem nq_818 : Cond.code yX9_lost cX9_lost 11 (some .int) ∈ wsG := mg (mt_5 _ (List.mem_of_getElem? (i := 95) rfl)) rfl
theorem nq_819 : Cond.constantLong RX9 316 (10) ∈ wsG := mg (mt_5 _ (List.mem_of_getElem? (i := 96) rfl)) rfl
theorem nq_820 : Cond.methodLink RL 102 yX8_seed ∈ wsG := mg (mt_3 _ (List.mem_of_getElem? (i := 126) rfl)) rfl
theorem nq_821 : Cond.instanceMethod yX8_seed ∈ wsG := mg (mt_3 _ (List.mem_of_getElem? (i := 127) rfl)) rfl
theorem nq_822 : Cond.selects RX8 yX8_seed yX8_seed ∈ wsG := mg (mt_3 _ (List.mem_of_getElem? (i := 128) rfl)) rfl
theorem nq_823 : Cond.code yX8_seed cX8_seed 5 (some .long) ∈ wsG := mg (mt_3 _ (List.mem_of_getElem? (i := 129) rfl)) rfl
theorem nq_824 : Cond.methodLink RL 106 yX9_seed ∈ wsG := mg (mt_5 _ (List.mem_of_getElem? (i := 97) rfl)) rfl
theorem nq_825 : Cond.instanceMethod yX9_seed ∈ wsG := mg (mt_5 _ (List.mem_of_getElem? (i := 98) rfl)) rfl
theorem nq_826 : Cond.selects RX9 yX9_seed yX9_seed ∈ wsG := mg (mt_5 _ (List.mem_of_getElem? (i := 99) rfl)) rfl
theorem nq_827 : Cond.code yX9_seed cX9_seed 5 (some .long) ∈ wsG := mg (mt_5 _ (List.mem_of_getElem? (i := 100) rfl)) rfl
theorem nq_828 : Cond.fieldLink RX9 318 "LockWatchModel" "seed" "J" ∈ wsG := mg (mt_3 _ (List.mem_of_getElem? (i := 204) rfl)) rfl
theorem nq_829 : Cond.methodLink RL 107 yX8_drawn ∈ wsG := mg (mt_3 _ (List.mem_of_getElem? (i := 130) rfl)) rfl
theorem nq_830 : Cond.instanceMethod yX8_drawn ∈ wsG := mg (mt_3 _ (List.mem_of_getElem? (i := 131) rfl)) rfl
theorem nq_831 : Cond.selects RX8 yX8_drawn yX8_drawn ∈ wsG := mg (mt_3 _ (List.mem_of_getElem? (i := 132) rfl)) rfl
theorem nq_832 : Cond.code yX8_drawn cX8_drawn 6 (some .int) ∈ wsG := mg (mt_3 _ (List.mem_of_getElem? (i := 133) rfl)) rfl
theorem nq_833 : Cond.constantLong RX8 227 (6364136223846793005) ∈ wsG := mg (mt_3 _ (List.mem_of_getElem? (i := 138) rfl)) rfl
theorem nq_834 : Cond.constantLong RX8 229 (1442695040888963407) ∈ wsG := mg (mt_3 _ (List.mem_of_getElem? (i := 139) rfl)) rfl
theorem nq_835 : Cond.methodLink RX8 231 Lib.Math.max.name ∈ wsG := mg (mt_3 _ (List.mem_of_getElem? (i := 140) rfl)) rfl
theorem nq_836 : Cond.static Lib.Math.max.name ∈ wsG := mg (mt_3 _ (List.mem_of_getElem? (i := 141) rfl)) rfl
theorem nq_837 : Cond.code Lib.Math.max.name Lib.Math.max.code 2 (some .int) ∈ wsG := mg (mt_3 _ (List.mem_of_getElem? (i := 142) rfl)) rfl
theorem nq_838 : Cond.methodLink RX8 223 yX8_faultsOfTrial ∈ wsG := mg (mt_3 _ (List.mem_of_getElem? (i := 134) rfl)) rfl
theorem nq_839 : Cond.instanceMethod yX8_faultsOfTrial ∈ wsG := mg (mt_3 _ (List.mem_of_getElem? (i := 136) rfl)) rfl
theorem nq_840 : Cond.selects RX8 yX8_faultsOfTrial yX8_faultsOfTrial ∈ wsG := mg (mp_1 (_, 10) (List.mem_of_getElem? (i := 13) rfl)) rfl
theorem nq_841 : Cond.code yX8_faultsOfTrial cX8_faultsOfTrial 1 (some .int) ∈ wsG := mg (mt_3 _ (List.mem_of_getElem? (i := 137) rfl)) rfl
theorem nq_842 : Cond.methodLink RL 110 yX9_drawn ∈ wsG := mg (mt_5 _ (List.mem_of_getElem? (i := 101) rfl)) rfl
theorem nq_843 : Cond.instanceMethod yX9_drawn ∈ wsG := mg (mt_5 _ (List.mem_of_getElem? (i := 102) rfl)) rfl
theorem nq_844 : Cond.selects RX9 yX9_drawn yX9_drawn ∈ wsG := mg (mt_5 _ (List.mem_of_getElem? (i := 103) rfl)) rfl
theorem nq_845 : Cond.code yX9_drawn cX9_drawn 6 (some .int) ∈ wsG := mg (mt_5 _ (List.mem_of_getElem? (i := 104) rfl)) rfl
theorem nq_846 : Cond.constantLong RX9 321 (20) ∈ wsG := mg (mt_5 _ (List.mem_of_getElem? (i := 105) rfl)) rfl
theorem nq_847 : Cond.constantLong RX9 323 (6364136223846793005) ∈ wsG := mg (mt_5 _ (List.mem_of_getElem? (i := 106) rfl)) rfl
theorem nq_848 : Cond.constantLong RX9 325 (1442695040888963407) ∈ wsG := mg (mt_5 _ (List.mem_of_getElem? (i := 107) rfl)) rfl
theorem nq_849 : Cond.methodLink RL 111 yX8_keep ∈ wsG := mg (mt_3 _ (List.mem_of_getElem? (i := 143) rfl)) rfl
theorem nq_850 : Cond.instanceMethod yX8_keep ∈ wsG := mg (mt_3 _ (List.mem_of_getElem? (i := 144) rfl)) rfl
theorem nq_851 : Cond.selects RX8 yX8_keep yX8_keep ∈ wsG := mg (mt_3 _ (List.mem_of_getElem? (i := 145) rfl)) rfl
theorem nq_852 : Cond.code yX8_keep cX8_keep 2 (some .int) ∈ wsG := mg (mt_3 _ (List.mem_of_getElem? (i := 146) rfl)) rfl
theorem nq_853 : Cond.methodLink RL 114 yX9_keep ∈ wsG := mg (mt_5 _ (List.mem_of_getElem? (i := 108) rfl)) rfl
theorem nq_854 : Cond.instanceMethod yX9_keep ∈ wsG := mg (mt_5 _ (List.mem_of_getElem? (i := 109) rfl)) rfl
theorem nq_855 : Cond.selects RX9 yX9_keep yX9_keep ∈ wsG := mg (mt_5 _ (List.mem_of_getElem? (i := 110) rfl)) rfl
theorem nq_856 : Cond.code yX9_keep cX9_keep 3 (some .int) ∈ wsG := mg (mt_5 _ (List.mem_of_getElem? (i := 111) rfl)) rfl
theorem nq_857 : Cond.methodLink RL 115 yX8_again ∈ wsG := mg (mt_3 _ (List.mem_of_getElem? (i := 147) rfl)) rfl
theorem nq_858 : Cond.instanceMethod yX8_again ∈ wsG := mg (mt_3 _ (List.mem_of_getElem? (i := 148) rfl)) rfl
theorem nq_859 : Cond.selects RX8 yX8_again yX8_again ∈ wsG := mg (mt_3 _ (List.mem_of_getElem? (i := 149) rfl)) rfl
theorem nq_860 : Cond.code yX8_again cX8_again 2 (some .int) ∈ wsG := mg (mt_3 _ (List.mem_of_getElem? (i := 150) rfl)) rfl
theorem nq_861 : Cond.methodLink RL 118 yX9_again ∈ wsG := mg (mt_5 _ (List.mem_of_getElem? (i := 112) rfl)) rfl
theorem nq_862 : Cond.instanceMethod yX9_again ∈ wsG := mg (mt_5 _ (List.mem_of_getElem? (i := 113) rfl)) rfl
theorem nq_863 : Cond.selects RX9 yX9_again yX9_again ∈ wsG := mg (mt_5 _ (List.mem_of_getElem? (i := 114) rfl)) rfl
theorem nq_864 : Cond.code yX9_again cX9_again 3 (some .int) ∈ wsG := mg (mt_5 _ (List.mem_of_getElem? (i := 115) rfl)) rfl
theorem nq_865 : Cond.methodLink RL 119 yX8_count ∈ wsG := mg (mt_3 _ (List.mem_of_getElem? (i := 151) rfl)) rfl
theorem nq_866 : Cond.instanceMethod yX8_count ∈ wsG := mg (mt_3 _ (List.mem_of_getElem? (i := 152) rfl)) rfl
theorem nq_867 : Cond.selects RX8 yX8_count yX8_count ∈ wsG := mg (mt_3 _ (List.mem_of_getElem? (i := 153) rfl)) rfl
theorem nq_868 : Cond.code yX8_count cX8_count 2 (some .int) ∈ wsG := mg (mt_3 _ (List.mem_of_getElem? (i := 154) rfl)) rfl
theorem nq_869 : Cond.methodLink RX8 248 yX7_allToWrite ∈ wsG := mg (mt_3 _ (List.mem_of_getElem? (i := 155) rfl)) rfl
theorem nq_870 : Cond.methodLink RX8 251 yX7_allToRead ∈ wsG := mg (mt_3 _ (List.mem_of_getElem? (i := 156) rfl)) rfl
theorem nq_871 : Cond.methodLink RX8 254 yX1_flaggedBits ∈ wsG := mg (mt_3 _ (List.mem_of_getElem? (i := 157) rfl)) rfl
theorem nq_872 : Cond.methodLink RX8 257 yX1_meetingBits ∈ wsG := mg (mt_3 _ (List.mem_of_getElem? (i := 158) rfl)) rfl
theorem nq_873 : Cond.static yX1_meetingBits ∈ wsG := mg (mt_3 _ (List.mem_of_getElem? (i := 159) rfl)) rfl
theorem nq_874 : Cond.code yX1_meetingBits cX1_meetingBits 3 (some .int) ∈ wsG := mg (mt_3 _ (List.mem_of_getElem? (i := 160) rfl)) rfl
theorem nq_875 : Cond.methodLink RX1 60 yX1_leastMeeting ∈ wsG := mg (mt_3 _ (List.mem_of_getElem? (i := 161) rfl)) rfl
theorem nq_876 : Cond.methodLink RL 122 yX9_count ∈ wsG := mg (mt_5 _ (List.mem_of_getElem? (i := 116) rfl)) rfl
theorem nq_877 : Cond.instanceMethod yX9_count ∈ wsG := mg (mt_5 _ (List.mem_of_getElem? (i := 117) rfl)) rfl
theorem nq_878 : Cond.selects RX9 yX9_count yX9_count ∈ wsG := mg (mt_5 _ (List.mem_of_getElem? (i := 118) rfl)) rfl
theorem nq_879 : Cond.code yX9_count cX9_count 2 (some .int) ∈ wsG := mg (mt_5 _ (List.mem_of_getElem? (i := 119) rfl)) rfl
theorem nq_880 : Cond.methodLink RX9 327 yX9_meetingCells ∈ wsG := mg (mt_5 _ (List.mem_of_getElem? (i := 120) rfl)) rfl
theorem nq_881 : Cond.instanceMethod yX9_meetingCells ∈ wsG := mg (mt_5 _ (List.mem_of_getElem? (i := 122) rfl)) rfl
theorem nq_882 : Cond.selects RX9 yX9_meetingCells yX9_meetingCells ∈ wsG := mg (mp_4 (_, 39) (List.mem_of_getElem? (i := 9) rfl)) rfl
theorem nq_883 : Cond.code yX9_meetingCells cX9_meetingCells 3 (some .int) ∈ wsG := mg (mt_5 _ (List.mem_of_getElem? (i := 123) rfl)) rfl
theorem inG0 : ∀ w ∈ u_ws RX0 TX0 3, w ∈ wsG := List.forall_mem_cons.mpr ⟨mg (mt_1 _ (List.mem_of_getElem? (i := 133) rfl)) rfl, List.forall_mem_cons.mpr ⟨mg (mt_1 _ (List.mem_of_getElem? (i := 135) rfl)) rfl, List.forall_mem_cons.mpr ⟨mg (mt_1 _ (List.mem_of_getElem? (i := 137) rfl)) rfl, fun _ h => absurd h List.not_mem_nil⟩⟩⟩
theorem inG2 : ∀ w ∈ u_ws RX2 TX2 3, w ∈ wsG := List.forall_mem_cons.mpr ⟨mg (mt_1 _ (List.mem_of_getElem? (i := 202) rfl)) rfl, List.forall_mem_cons.mpr ⟨mg (mt_1 _ (List.mem_of_getElem? (i := 204) rfl)) rfl, List.forall_mem_cons.mpr ⟨mg (mt_1 _ (List.mem_of_getElem? (i := 206) rfl)) rfl, fun _ h => absurd h List.not_mem_nil⟩⟩⟩
theorem inG3 : ∀ w ∈ u_ws RX3 TX3 7, w ∈ wsG := List.forall_mem_cons.mpr ⟨mg (mt_1 _ (List.mem_of_getElem? (i := 177) rfl)) rfl, List.forall_mem_cons.mpr ⟨mg (mt_1 _ (List.mem_of_getElem? (i := 179) rfl)) rfl, List.forall_mem_cons.mpr ⟨mg (mt_1 _ (List.mem_of_getElem? (i := 181) rfl)) rfl, List.forall_mem_cons.mpr ⟨mg (mt_1 _ (List.mem_of_getElem? (i := 183) rfl)) rfl, List.forall_mem_cons.mpr ⟨mg (mt_1 _ (List.mem_of_getElem? (i := 185) rfl)) rfl, List.forall_mem_cons.mpr ⟨mg (mt_1 _ (List.mem_of_getElem? (i := 187) rfl)) rfl, List.forall_mem_cons.mpr ⟨mg (mt_1 _ (List.mem_of_getElem? (i := 189) rfl)) rfl, fun _ h => absurd h List.not_mem_nil⟩⟩⟩⟩⟩⟩⟩
theorem inG4 : ∀ w ∈ u_ws RX4 TX4 9, w ∈ wsG := List.forall_mem_cons.mpr ⟨mg (mt_1 _ (List.mem_of_getElem? (i := 103) rfl)) rfl, List.forall_mem_cons.mpr ⟨mg (mt_1 _ (List.mem_of_getElem? (i := 105) rfl)) rfl, List.forall_mem_cons.mpr ⟨mg (mt_1 _ (List.mem_of_getElem? (i := 107) rfl)) rfl, List.forall_mem_cons.mpr ⟨mg (mt_1 _ (List.mem_of_getElem? (i := 109) rfl)) rfl, List.forall_mem_cons.mpr ⟨mg (mt_1 _ (List.mem_of_getElem? (i := 111) rfl)) rfl, List.forall_mem_cons.mpr ⟨mg (mt_1 _ (List.mem_of_getElem? (i := 113) rfl)) rfl, List.forall_mem_cons.mpr ⟨mg (mt_1 _ (List.mem_of_getElem? (i := 115) rfl)) rfl, List.forall_mem_cons.mpr ⟨mg (mt_1 _ (List.mem_of_getElem? (i := 117) rfl)) rfl, List.forall_mem_cons.mpr ⟨mg (mt_1 _ (List.mem_of_getElem? (i := 119) rfl)) rfl, fun _ h => absurd h List.not_mem_nil⟩⟩⟩⟩⟩⟩⟩⟩⟩
theorem inG5 : ∀ w ∈ u_ws RX5 TX5 4, w ∈ wsG := List.forall_mem_cons.mpr ⟨mg (mt_1 _ (List.mem_of_getElem? (i := 152) rfl)) rfl, List.forall_mem_cons.mpr ⟨mg (mt_1 _ (List.mem_of_getElem? (i := 154) rfl)) rfl, List.forall_mem_cons.mpr ⟨mg (mt_1 _ (List.mem_of_getElem? (i := 156) rfl)) rfl, List.forall_mem_cons.mpr ⟨mg (mt_1 _ (List.mem_of_getElem? (i := 158) rfl)) rfl, fun _ h => absurd h List.not_mem_nil⟩⟩⟩⟩
theorem inG6 : ∀ w ∈ u_ws RX6 TX6 2, w ∈ wsG := List.forall_mem_cons.mpr ⟨mg (mt_1 _ (List.mem_of_getElem? (i := 32) rfl)) rfl, List.forall_mem_cons.mpr ⟨mg (mt_1 _ (List.mem_of_getElem? (i := 34) rfl)) rfl, fun _ h => absurd h List.not_mem_nil⟩⟩
theorem inG7 : ∀ w ∈ u_ws RX7 TX7 4, w ∈ wsG := List.forall_mem_cons.mpr ⟨mg (mt_1 _ (List.mem_of_getElem? (i := 65) rfl)) rfl, List.forall_mem_cons.mpr ⟨mg (mt_1 _ (List.mem_of_getElem? (i := 67) rfl)) rfl, List.forall_mem_cons.mpr ⟨mg (mt_1 _ (List.mem_of_getElem? (i := 69) rfl)) rfl, List.forall_mem_cons.mpr ⟨mg (mt_1 _ (List.mem_of_getElem? (i := 71) rfl)) rfl, fun _ h => absurd h List.not_mem_nil⟩⟩⟩⟩
theorem inG8 : ∀ w ∈ u_ws RX8 TX8 10, w ∈ wsG := List.forall_mem_cons.mpr ⟨mg (mt_1 _ (List.mem_of_getElem? (i := 220) rfl)) rfl, List.forall_mem_cons.mpr ⟨mg (mt_1 _ (List.mem_of_getElem? (i := 222) rfl)) rfl, List.forall_mem_cons.mpr ⟨mg (mt_1 _ (List.mem_of_getElem? (i := 224) rfl)) rfl, List.forall_mem_cons.mpr ⟨mg (mt_1 _ (List.mem_of_getElem? (i := 226) rfl)) rfl, List.forall_mem_cons.mpr ⟨mg (mt_1 _ (List.mem_of_getElem? (i := 228) rfl)) rfl, List.forall_mem_cons.mpr ⟨mg (mt_1 _ (List.mem_of_getElem? (i := 230) rfl)) rfl, List.forall_mem_cons.mpr ⟨mg (mt_1 _ (List.mem_of_getElem? (i := 232) rfl)) rfl, List.forall_mem_cons.mpr ⟨mg (mt_1 _ (List.mem_of_getElem? (i := 234) rfl)) rfl, List.forall_mem_cons.mpr ⟨mg (mt_1 _ (List.mem_of_getElem? (i := 236) rfl)) rfl, List.forall_mem_cons.mpr ⟨mg (mt_1 _ (List.mem_of_getElem? (i := 238) rfl)) rfl, fun _ h => absurd h List.not_mem_nil⟩⟩⟩⟩⟩⟩⟩⟩⟩⟩
theorem inG9 : ∀ w ∈ u_ws RX9 TX9 39, w ∈ wsG := List.forall_mem_cons.mpr ⟨mg (mt_3 _ (List.mem_of_getElem? (i := 207) rfl)) rfl, List.forall_mem_cons.mpr ⟨mg (mt_3 _ (List.mem_of_getElem? (i := 209) rfl)) rfl, List.forall_mem_cons.mpr ⟨mg (mt_3 _ (List.mem_of_getElem? (i := 211) rfl)) rfl, List.forall_mem_cons.mpr ⟨mg (mt_3 _ (List.mem_of_getElem? (i := 213) rfl)) rfl, List.forall_mem_cons.mpr ⟨mg (mt_3 _ (List.mem_of_getElem? (i := 215) rfl)) rfl, List.forall_mem_cons.mpr ⟨mg (mt_3 _ (List.mem_of_getElem? (i := 217) rfl)) rfl, List.forall_mem_cons.mpr ⟨mg (mt_3 _ (List.mem_of_getElem? (i := 219) rfl)) rfl, List.forall_mem_cons.mpr ⟨mg (mt_3 _ (List.mem_of_getElem? (i := 221) rfl)) rfl, List.forall_mem_cons.mpr ⟨mg (mt_3 _ (List.mem_of_getElem? (i := 223) rfl)) rfl, List.forall_mem_cons.mpr ⟨mg (mt_3 _ (List.mem_of_getElem? (i := 225) rfl)) rfl, List.forall_mem_cons.mpr ⟨mg (mt_3 _ (List.mem_of_getElem? (i := 227) rfl)) rfl, List.forall_mem_cons.mpr ⟨mg (mt_3 _ (List.mem_of_getElem? (i := 229) rfl)) rfl, List.forall_mem_cons.mpr ⟨mg (mt_3 _ (List.mem_of_getElem? (i := 231) rfl)) rfl, List.forall_mem_cons.mpr ⟨mg (mt_3 _ (List.mem_of_getElem? (i := 233) rfl)) rfl, List.forall_mem_cons.mpr ⟨mg (mt_3 _ (List.mem_of_getElem? (i := 235) rfl)) rfl, List.forall_mem_cons.mpr ⟨mg (mt_3 _ (List.mem_of_getElem? (i := 237) rfl)) rfl, List.forall_mem_cons.mpr ⟨mg (mt_3 _ (List.mem_of_getElem? (i := 239) rfl)) rfl, List.forall_mem_cons.mpr ⟨mg (mt_4 _ (List.mem_of_getElem? (i := 1) rfl)) rfl, List.forall_mem_cons.mpr ⟨mg (mt_4 _ (List.mem_of_getElem? (i := 3) rfl)) rfl, List.forall_mem_cons.mpr ⟨mg (mt_4 _ (List.mem_of_getElem? (i := 5) rfl)) rfl, List.forall_mem_cons.mpr ⟨mg (mt_4 _ (List.mem_of_getElem? (i := 7) rfl)) rfl, List.forall_mem_cons.mpr ⟨mg (mt_4 _ (List.mem_of_getElem? (i := 9) rfl)) rfl, List.forall_mem_cons.mpr ⟨mg (mt_4 _ (List.mem_of_getElem? (i := 11) rfl)) rfl, List.forall_mem_cons.mpr ⟨mg (mt_4 _ (List.mem_of_getElem? (i := 13) rfl)) rfl, List.forall_mem_cons.mpr ⟨mg (mt_4 _ (List.mem_of_getElem? (i := 15) rfl)) rfl, List.forall_mem_cons.mpr ⟨mg (mt_4 _ (List.mem_of_getElem? (i := 17) rfl)) rfl, List.forall_mem_cons.mpr ⟨mg (mt_4 _ (List.mem_of_getElem? (i := 19) rfl)) rfl, List.forall_mem_cons.mpr ⟨mg (mt_4 _ (List.mem_of_getElem? (i := 21) rfl)) rfl, List.forall_mem_cons.mpr ⟨mg (mt_4 _ (List.mem_of_getElem? (i := 23) rfl)) rfl, List.forall_mem_cons.mpr ⟨mg (mt_4 _ (List.mem_of_getElem? (i := 25) rfl)) rfl, List.forall_mem_cons.mpr ⟨mg (mt_4 _ (List.mem_of_getElem? (i := 27) rfl)) rfl, List.forall_mem_cons.mpr ⟨mg (mt_4 _ (List.mem_of_getElem? (i := 29) rfl)) rfl, List.forall_mem_cons.mpr ⟨mg (mt_4 _ (List.mem_of_getElem? (i := 31) rfl)) rfl, List.forall_mem_cons.mpr ⟨mg (mt_4 _ (List.mem_of_getElem? (i := 33) rfl)) rfl, List.forall_mem_cons.mpr ⟨mg (mt_4 _ (List.mem_of_getElem? (i := 35) rfl)) rfl, List.forall_mem_cons.mpr ⟨mg (mt_4 _ (List.mem_of_getElem? (i := 37) rfl)) rfl, List.forall_mem_cons.mpr ⟨mg (mt_4 _ (List.mem_of_getElem? (i := 39) rfl)) rfl, List.forall_mem_cons.mpr ⟨mg (mt_4 _ (List.mem_of_getElem? (i := 41) rfl)) rfl, List.forall_mem_cons.mpr ⟨mg (mt_4 _ (List.mem_of_getElem? (i := 43) rfl)) rfl, fun _ h => absurd h List.not_mem_nil⟩⟩⟩⟩⟩⟩⟩⟩⟩⟩⟩⟩⟩⟩⟩⟩⟩⟩⟩⟩⟩⟩⟩⟩⟩⟩⟩⟩⟩⟩⟩⟩⟩⟩⟩⟩⟩⟩⟩
end
section
/-! ===== the world: cells by number, numbers in a store ===== -/
abbrev St : Type := (Nat → Nat → Int32) × (Nat → Nat → Int64)
def sI (σ : St) (c i : Nat) (v : Int32) : St := (fun a => if a = c then upd (σ.1 c) i v else σ.1 a, σ.2)
def sL (σ : St) (c i : Nat) (v : Int64) : St := (σ.1, fun a => if a = c then vp_updL (σ.2 c) i v else σ.2 a)
def sLf (σ : St) (c : Nat) (f : Nat → Int64) : St := (σ.1, fun a => if a = c then f else σ.2 a)
abbrev Fk : Type := Option (Option (Option Nat))
abbrev Kd : Type := (Nat × Nat × List (Option Nat)) ⊕ (Nat × List Fk)
def cv (al : Nat → Nat) : Value → Value
  | .ref k => .ref (al k)
  | v => v
def cp (al : Nat → Nat) (q : Nat × Value) : Nat × Value := (q.1, cv al q.2)
theorem cv_cat (al : Nat → Nat) (v : Value) : (cv al v).category = v.category := by cases v <;> rfl
def fV (al : Nat → Nat) (σ : St) (k j : Nat) : Fk → Value
  | none => .int (σ.1 k j)
  | some none => .long (σ.2 k j)
  | some (some none) => .null
  | some (some (some r)) => .ref (al r)
def cF (al : Nat → Nat) (σ : St) (k : Nat) : Nat → List Fk → List Value
  | _, [] => []
  | j, f :: fs => fV al σ k j f :: cF al σ k (j + 1) fs
def cE (cA : Nat → ClassId) (al : Nat → Nat) (σ : St) (k : Nat) : Kd → va_E
  | .inl (0, n, _) => .inl (cA 0, n, .inl (σ.1 k))
  | .inl (1, n, _) => .inl (cA 1, n, .inr (.inl (σ.2 k)))
  | .inl (2, n, _) => .inl (cA 2, n, .inl (σ.1 k))
  | .inl (_, n, rs) => .inl (cA 3, n, .inr (.inr (.inr (.inr (fun j => ((rs[j]?).getD none).map al)))))
  | .inr (ci, fs) => .inr (ci, cF al σ k 0 fs)
def pI (cA : Nat → ClassId) (al : Nat → Nat) (σ : St) : Nat → List Kd → va_W
  | _, [] => []
  | k, d :: ds => (al k, cE cA al σ k d) :: pI cA al σ (k + 1) ds
abbrev pic (cA : Nat → ClassId) (al : Nat → Nat) (sh : List Kd) (σ : St) : va_W := pI cA al σ 0 sh
theorem pI_get (cA : Nat → ClassId) (al : Nat → Nat) (σ : St) : ∀ (ds : List Kd) (j i : Nat), (pI cA al σ j ds)[i]? = (ds[i]?).map (fun d => (al (j + i), cE cA al σ (j + i) d))
  | [], j, i => by simp [pI]
  | d :: ds, j, 0 => by simp [pI]
  | d :: ds, j, i + 1 => by
    have h := pI_get cA al σ ds (j + 1) i
    simp only [pI, List.getElem?_cons_succ]
    rw [h, show j + 1 + i = j + (i + 1) by omega]
theorem pic_get {cA : Nat → ClassId} {al : Nat → Nat} {σ : St} {sh : List Kd} {k : Nat} {d : Kd} (h : sh[k]? = some d) : (pic cA al sh σ)[k]? = some (al k, cE cA al σ k d) := by
  rw [pI_get, h]; simp
theorem cF_get (al : Nat → Nat) (σ : St) (k : Nat) : ∀ (fs : List Fk) (j i : Nat), (cF al σ k j fs)[i]? = (fs[i]?).map (fun f => fV al σ k (j + i) f)
  | [], j, i => by simp [cF]
  | f :: fs, j, 0 => by simp [cF]
  | f :: fs, j, i + 1 => by
    have h := cF_get al σ k fs (j + 1) i
    simp only [cF, List.getElem?_cons_succ]
    rw [h, show j + 1 + i = j + (i + 1) by omega]
theorem cF_len (al : Nat → Nat) (σ : St) (k : Nat) : ∀ (fs : List Fk) (j : Nat), (cF al σ k j fs).length = fs.length
  | [], _ => rfl
  | _ :: fs, j => by simp [cF, cF_len al σ k fs (j + 1)]
theorem cF_setI {al : Nat → Nat} {σ : St} {k i : Nat} {fs : List Fk} (h : fs[i]? = some none) (v : Int32) : (cF al σ k 0 fs).set i (.int v) = cF al (sI σ k i v) k 0 fs := by
  apply List.ext_getElem?
  intro j
  rw [List.getElem?_set, cF_get, cF_get, cF_len]
  have hi : i < fs.length := (List.getElem?_eq_some_iff.mp h).1
  by_cases e : i = j
  · subst e; rw [h]; simp [hi, fV, sI, upd]
  · rw [if_neg e]
    cases hf : fs[j]? with
    | none => rfl
    | some f =>
      have e' : j ≠ i := fun q => e q.symm
      rcases f with _ | _ | _ | r <;> simp [fV, sI, upd, e']
theorem cF_setL {al : Nat → Nat} {σ : St} {k i : Nat} {fs : List Fk} (h : fs[i]? = some (some none)) (v : Int64) : (cF al σ k 0 fs).set i (.long v) = cF al (sL σ k i v) k 0 fs := by
  apply List.ext_getElem?
  intro j
  rw [List.getElem?_set, cF_get, cF_get, cF_len]
  have hi : i < fs.length := (List.getElem?_eq_some_iff.mp h).1
  by_cases e : i = j
  · subst e; rw [h]; simp [hi, fV, sL, vp_updL]
  · rw [if_neg e]
    cases hf : fs[j]? with
    | none => rfl
    | some f =>
      have e' : j ≠ i := fun q => e q.symm
      rcases f with _ | _ | _ | r <;> simp [fV, sL, vp_updL, e']
theorem cF_setR {al : Nat → Nat} {σ : St} {k i : Nat} {fs : List Fk} (hi : i < fs.length) (r : Nat) : (cF al σ k 0 fs).set i (.ref (al r)) = cF al σ k 0 (fs.set i (some (some (some r)))) := by
  apply List.ext_getElem?
  intro j
  rw [List.getElem?_set, cF_get, cF_get, cF_len, List.getElem?_set]
  by_cases e : i = j
  · subst e; simp [hi, fV]
  · rw [if_neg e, if_neg e]
def oth (k : Nat) (σ τ : St) : Prop := ∀ a, a ≠ k → τ.1 a = σ.1 a ∧ τ.2 a = σ.2 a
theorem oth_I (σ : St) (k i : Nat) (v : Int32) : oth k σ (sI σ k i v) := fun a h => by simp [sI, h]
theorem oth_L (σ : St) (k i : Nat) (v : Int64) : oth k σ (sL σ k i v) := fun a h => by simp [sL, h]
theorem oth_Lf (σ : St) (k : Nat) (f : Nat → Int64) : oth k σ (sLf σ k f) := fun a h => by simp [sLf, h]
theorem cF_oth {al : Nat → Nat} {σ τ : St} {a : Nat} (h : τ.1 a = σ.1 a ∧ τ.2 a = σ.2 a) : ∀ (fs : List Fk) (j : Nat), cF al τ a j fs = cF al σ a j fs
  | [], _ => rfl
  | f :: fs, j => by
    rw [cF, cF, cF_oth h fs (j + 1)]
    rcases f with _ | _ | _ | r <;> simp [fV, h.1, h.2]
theorem cE_oth {cA : Nat → ClassId} {al : Nat → Nat} {σ τ : St} {a : Nat} (h : τ.1 a = σ.1 a ∧ τ.2 a = σ.2 a) (d : Kd) : cE cA al τ a d = cE cA al σ a d := by
  rcases d with ⟨t, n, rs⟩ | ⟨ci, fs⟩
  · rcases t with _ | _ | _ | t <;> simp [cE, h.1, h.2]
  · simp [cE, cF_oth h]
theorem pic_set {cA : Nat → ClassId} {al : Nat → Nat} {σ τ : St} {sh : List Kd} {k : Nat} {d : Kd} (h : sh[k]? = some d) (ho : oth k σ τ) {x : va_E} (hx : x = cE cA al τ k d) : (pic cA al sh σ).set k (al k, x) = pic cA al sh τ := by
  subst hx
  apply List.ext_getElem?
  intro j
  rw [List.getElem?_set, pI_get, pI_get]
  by_cases e : k = j
  · subst e
    have hl : k < (pI cA al σ 0 sh).length := by
      have := pic_get (cA := cA) (al := al) (σ := σ) h
      exact (List.getElem?_eq_some_iff.mp this).1
    simp [h, hl]
  · rw [if_neg e]
    cases hf : sh[j]? with
    | none => rfl
    | some d2 =>
      have := cE_oth (cA := cA) (al := al) (ho j (fun q => e q.symm)) d2
      simp [this]
/-- the shape changes at one cell, not the numbers -/
theorem pic_shape {cA : Nat → ClassId} {al : Nat → Nat} {σ : St} {sh : List Kd} {k : Nat} {d2 : Kd} (hk : k < sh.length) {x : va_E} (hx : x = cE cA al σ k d2) : (pic cA al sh σ).set k (al k, x) = pic cA al (sh.set k d2) σ := by
  subst hx
  apply List.ext_getElem?
  intro j
  rw [List.getElem?_set, pI_get, pI_get, List.getElem?_set]
  by_cases e : k = j
  · subst e
    have hl : k < (pI cA al σ 0 sh).length := by
      have := pic_get (cA := cA) (al := al) (σ := σ) (List.getElem?_eq_getElem hk)
      exact (List.getElem?_eq_some_iff.mp this).1
    simp [hk, hl]
  · rw [if_neg e, if_neg e]
abbrev tysW (cA : Nat → ClassId) : List (ClassId × FieldType) := [(cA 0, .int), (cA 1, .long), (cA 2, .boolean), (cA 3, .object "LockWatch$Row")]
def nwF : List (String × Nat × String × String × String) := [(RX8, 103, "LockWatch$Row", "heldToRead", "[I"), (RX8, 106, "LockWatch$Row", "code", "[I"), (RX8, 164, "LockWatch$Rings", "size", "I"), (RX8, 172, "LockWatch$Rings", "tally", "[I"), (RX8, 175, "LockWatch$Rings", "least", "I"), (RX8, 188, "LockWatch$Seen", "size", "I"), (RX8, 220, "LockWatch$Chances", "whole", "J"), (RX8, 236, "LockWatch$Row", "world", "LLockWatch$World;"), (RX8, 240, "LockWatch$World", "started", "I"), (RX8, 245, "LockWatch$World", "ended", "I"), (RX8, 70, "LockWatch$Text", "length", "I"), (RX8, 82, "LockWatch$Acts", "size", "I"), (RX8, 85, "LockWatch$Row", "size", "I"), (RX8, 99, "LockWatch$Row", "heldToWrite", "[I"), (RX1, 24, "LockWatch$Row", "guards", "[I"), (RX1, 28, "LockWatch$Row", "size", "I"), (RX2, 30, "LockWatch$Row", "size", "I"), (RX3, 34, "LockWatch$Row", "size", "I"), (RX3, 76, "LockWatch$Row", "heldToRead", "[I"), (RX3, 79, "LockWatch$Row", "heldToWrite", "[I"), (RX4, 58, "LockWatch$World", "toWrite", "[I"), (RX4, 61, "LockWatch$World", "toRead", "[I"), (RX5, 32, "LockWatch$Row", "size", "I"), (RX6, 28, "LockWatch$Row", "size", "I"), (RX6, 31, "LockWatch$Row", "world", "LLockWatch$World;")]
def NW (U : State) : Prop := (∀ q ∈ nwF, va_Nw (.fieldLinkNest q.1 q.2.1 q.2.2.1 q.2.2.2.1 q.2.2.2.2 "LockWatch") U) ∧ va_Nw (.methodLinkNest RX6 49 yX8_isOneOfFour RX8) U
def fDO (j : Nat) : Int64 := ([1, 10000, 100000000, 1000000000000, 10000000000000000] : List Int64).getD j 0
def fOR (j : Nat) : Int32 := ([6, 2, 2, 6] : List Int32).getD j 0
def SX (al : Nat → Nat) (A : Nat → Prop) (U : State) (H : Heap) : Prop := va_Z "LockWatch" "DOINGS" "[J" (.ref (al 1000)) A U H ∧ va_T .long (al 1000) 5 (fun j => .long (fDO j)) A U H ∧ va_Z "LockWatch" "ORDERS" "[I" (.ref (al 1001)) A U H ∧ va_T .int (al 1001) 4 (fun j => .int (fOR j)) A U H
def AW (al : Nat → Nat) (sh : List Kd) (sz : Nat) : Nat → Prop := fun q => (∃ k, k < sh.length ∧ q = al k) ∨ sz ≤ q
def WPre (dC : Nat → ClassId) (dI : Nat → Nat → Nat) (cA : Nat → ClassId) (al : Nat → Nat) (sh : List Kd) (σ : St) (sz : Nat) (U : State) : Prop := U.heap.size = sz ∧ va_P (dC, dI) vwCl (pic cA al sh σ) U.heap ∧ va_K (dC, dI) vwCl (tysW cA) U ∧ va_D (fun _ => True) (pic cA al sh σ) ∧ NW U ∧ SX al (AW al sh sz) U U.heap
def WPost (dC : Nat → ClassId) (dI : Nat → Nat → Nat) (cA : Nat → ClassId) (al : Nat → Nat) (sh : List Kd) (A : Nat → Prop) (σ : St) (t : State) : Prop := va_P (dC, dI) vwCl (pic cA al sh σ) t.heap ∧ va_D A (pic cA al sh σ)
def wd (y : MethodName) (bytes : ByteArray) (maxL : Nat) (ret : Option FieldType) : List Cond := Cond.code y bytes maxL ret :: wsG
abbrev RM (d : Nat) : Room := { frames := d, cells := 0, slots := 0, locals := 40 * d }
theorem NW.warm {s U : State} (hW : s.WarmedH U.vm) (h : NW s) : NW U := ⟨fun q hq => va_Nw.warmF hW (h.1 q hq), va_Nw.warmM hW h.2⟩
theorem NW.same {s U : State} (hv : s.vm = U.vm) (h : NW s) : NW U := ⟨fun q hq => va_Nw.same rfl hv (h.1 q hq), va_Nw.same rfl hv h.2⟩
theorem gd_mem {w : Cond} (h : w ∈ wsG) : w ∈ wsG ∧ ((w.onTables && w.keeps) = true ∨ ∃ ty, w = .arrayClass ty) := ⟨h, good_of_word (List.mem_filter.mp h).2⟩
theorem gd_wd {y : MethodName} {bytes : ByteArray} {maxL : Nat} {ret : Option FieldType} (h5 : Cond.code y bytes maxL ret ∈ wsG) : GoodIn wsG (wd y bytes maxL ret) := fun w hw => (List.mem_cons.mp hw).elim (fun e => e ▸ gd_mem h5) gd_mem
theorem gd_V {own C : String} {idx : Nat} {y : MethodName} {bytes : ByteArray} {maxL : Nat} {ret : Option FieldType} (h1 : Cond.methodLink own idx y ∈ wsG) (h2 : Cond.instanceMethod y ∈ wsG) (h3 : Cond.selects C y y ∈ wsG) (h4 : Cond.initialized C ∈ wsG) (h5 : Cond.code y bytes maxL ret ∈ wsG) : GoodIn wsG (wsV own idx C y (wd y bytes maxL ret)) := by
  intro w hw
  rcases List.mem_append.mp hw with h | h
  · simp only [List.mem_cons, List.not_mem_nil, or_false] at h
    rcases h with rfl | rfl | rfl | rfl
    · exact gd_mem h1
    · exact gd_mem h2
    · exact gd_mem h3
    · exact gd_mem h4
  · exact gd_wd h5 w h
theorem gd_S {own : String} {idx : Nat} {y : MethodName} {bytes : ByteArray} {maxL : Nat} {ret : Option FieldType} (h1 : Cond.methodLink own idx y ∈ wsG) (h2 : Cond.static y ∈ wsG) (h4 : Cond.initialized y.cls ∈ wsG) (h5 : Cond.code y bytes maxL ret ∈ wsG) : GoodIn wsG (va_wsS own idx y (wd y bytes maxL ret)) := by
  intro w hw
  rcases List.mem_append.mp hw with h | h
  · simp only [List.mem_cons, List.not_mem_nil, or_false] at h
    rcases h with rfl | rfl | rfl
    · exact gd_mem h1
    · exact gd_mem h2
    · exact gd_mem h4
  · exact gd_wd h5 w h
theorem wpre_blind {dC : Nat → ClassId} {dI : Nat → Nat → Nat} {cA : Nat → ClassId} {al : Nat → Nat} {sh : List Kd} {σ : St} {sz : Nat} {av : List Value} : FrameBlind (va_Pc av (WPre dC dI cA al sh σ sz)) := fun a U g mk q => by
  obtain ⟨q0, q1, qP, qK, qD, qN, z1, z2, z3, z4⟩ := q
  exact ⟨q0, q1, qP, va_K.moved (u := U) (U := U.calling g mk a) (Vm.Alike.refl U.vm) qK, qD, NW.same (s := U) (U := U.calling g mk a) rfl qN, va_Z.moved (u := U) (U := U.calling g mk a) (Vm.Alike.refl U.vm) z1, va_T.moved (u := U) (U := U.calling g mk a) (Vm.Alike.refl U.vm) z2, va_Z.moved (u := U) (U := U.calling g mk a) (Vm.Alike.refl U.vm) z3, va_T.moved (u := U) (U := U.calling g mk a) (Vm.Alike.refl U.vm) z4⟩
theorem SX.to {al : Nat → Nat} {A B : Nat → Prop} {s U : State} {H0 H : Heap} (h : SX al A s H0) (hk : ∀ a : Nat, a < H0.size → ¬ A a → H[a]? = H0[a]?) (hAB : ∀ q, B q → A q) (hv : s.vm.Alike U.vm) : SX al B U H :=
  ⟨((h.1.kept hk).narrow hAB).moved hv, ((h.2.1.kept hk).narrow hAB).moved hv, ((h.2.2.1.kept hk).narrow hAB).moved hv, ((h.2.2.2.kept hk).narrow hAB).moved hv⟩
theorem pic_D {cA : Nat → ClassId} {al : Nat → Nat} {sh : List Kd} {σ : St} {A : Nat → Prop} (h : va_D A (pic cA al sh σ)) {k : Nat} (hk : k < sh.length) : A (al k) := h.2 k _ (pic_get (List.getElem?_eq_getElem hk))
theorem pic_D2 {cA : Nat → ClassId} {al : Nat → Nat} {sh : List Kd} {σ τ : St} {A : Nat → Prop} (h : va_D A (pic cA al sh σ)) : va_D A (pic cA al sh τ) := by
  have key : ∀ (k : Nat) (q : Nat × va_E), (pic cA al sh τ)[k]? = some q → ∃ q', (pic cA al sh σ)[k]? = some q' ∧ q'.1 = q.1 := by
    intro k q hq
    rw [pI_get] at hq
    cases hf : sh[k]? with
    | none => rw [hf] at hq; cases hq
    | some d => rw [hf] at hq; cases hq; exact ⟨_, pic_get hf, by simp⟩
  refine ⟨fun i j x y hi hj hxy => ?_, fun k q hk => ?_⟩
  · obtain ⟨a, h1, h2⟩ := key i x hi
    obtain ⟨b, h3, h4⟩ := key j y hj
    exact h.1 i j a b h1 h3 (by rw [h2, h4, hxy])
  · obtain ⟨a, h1, h2⟩ := key k q hk
    rw [← h2]; exact h.2 k a h1
theorem lv_args_map (al : Nat → Nat) : ∀ (vs : List Value) (i : Nat), lv_args i (vs.map (cv al)) = (lv_args i vs).map (cp al)
  | [], _ => rfl
  | v :: vs, i => by
    simp only [List.map_cons, lv_args, cv_cat, lv_args_map al vs]
    rfl
end
section
/-! ===== the judgement of a walk over the world, and its rows ===== -/
section WWR
variable {p : Program} {l : Launch} {e : Env} {R : Room} {s : State} {m : MethodId} {args : Array Value} {below : List Frame} {meth : Method} {c : Code} {Q : State → Prop} {dC : Nat → ClassId} {dI : Nat → Nat → Nat} {cA : Nat → ClassId} {A : Nat → Prop} {nL kc ks : Nat} {al : Nat → Nat} {sh : List Kd}
def WW (p : Program) (l : Launch) (e : Env) (R : Room) (s : State) (m : MethodId) (args : Array Value) (below : List Frame) (meth : Method) (c : Code) (Q : State → Prop) (dC : Nat → ClassId) (dI : Nat → Nat → Nat) (cA : Nat → ClassId) (A : Nat → Prop) (nL kc ks : Nat) (al : Nat → Nat) (sh : List Kd) (pc : Nat) (lv : List (Nat × Value)) (st : List Value) (σ : St) : Prop :=
  ∀ (H : Heap) (locs : List Loc) (ls : Array Slot), va_P (dC, dI) vwCl (pic cA al sh σ) H → va_D A (pic cA al sh σ) → va_S A s.heap H locs → lv_has ls nL (lv.map (cp al)) → W p l e R s m args below meth c H locs kc ks Q (F0 m pc ls (st.map (cv al)))
def Fx (p : Program) (s : State) (m : MethodId) (args : Array Value) (c : Code) (cc : ByteArray) (nL : Nat) (own : String) (dC : Nat → ClassId) (dI : Nat → Nat → Nat) (cA : Nat → ClassId) (A : Nat → Prop) (al : Nat → Nat) : Prop :=
  p.tables.exec = Jvm.exec ∧ c.code = cc ∧ c.maxLocals = nL ∧ s.vm.findClass own = some m.cls ∧ (∀ w ∈ wsG, w.before args s = true) ∧ va_K (dC, dI) vwCl (tysW cA) s ∧ NW s ∧ SX al A s s.heap ∧ ∀ q, s.heap.size ≤ q → A q
variable {cc : ByteArray} {own : String} {pc : Nat} {lv : List (Nat × Value)} {rest : List Value} {σ : St}
theorem cp_at {ls : Array Slot} {lv : List (Nat × Value)} {j i : Nat} {v : Value} (hl : lv_has ls nL (lv.map (cp al))) (h : lv[j]? = some (i, v)) : ls[i]? = some (.val (cv al v)) := by
  refine lv_at hl j (i := i) (v := cv al v) ?_
  rw [List.getElem?_map, h]; rfl
theorem cp_filter1 (i : Nat) : ∀ lv : List (Nat × Value), (lv.map (cp al)).filter (fun q => !(q.1 == i) && !(q.1 + 1 == i && q.2.category == 2)) = (lv.filter (fun q => !(q.1 == i) && !(q.1 + 1 == i && q.2.category == 2))).map (cp al) := by
  intro lv
  rw [List.filter_map]
  congr 1
  apply List.filter_congr
  intro x _
  simp [cp, cv_cat, Function.comp]
theorem cp_filter2 (i : Nat) : ∀ lv : List (Nat × Value), (lv.map (cp al)).filter (fun q => !(q.1 == i) && (!(q.1 == i + 1) && !(q.1 + 1 == i && q.2.category == 2))) = (lv.filter (fun q => !(q.1 == i) && (!(q.1 == i + 1) && !(q.1 + 1 == i && q.2.category == 2)))).map (cp al) := by
  intro lv
  rw [List.filter_map]
  congr 1
  apply List.filter_congr
  intro x _
  simp [cp, cv_cat, Function.comp]
theorem cp_sub {ls : Array Slot} {lv lv' : List (Nat × Value)} (hl : lv_has ls nL (lv.map (cp al))) (ks : List Nat) (h : lv_pick lv ks = lv') : lv_has ls nL (lv'.map (cp al)) := by
  subst h
  refine lv_sub hl ks ?_
  unfold lv_pick
  rw [List.map_filterMap]
  congr 1
  funext k
  rw [List.getElem?_map]
theorem ww_sub {lv' : List (Nat × Value)} {kz : Nat} {st : List Value} (ks : List Nat) (h : lv_pick lv ks = lv') (k : WW p l e R s m args below meth c Q dC dI cA A nL kc kz al sh pc lv' st σ) : WW p l e R s m args below meth c Q dC dI cA A nL kc kz al sh pc lv st σ := fun H locs ls hP hD hS hl => k H locs ls hP hD hS (cp_sub hl ks h)
theorem ww_iconst (C : Fx p s m args c cc nL own dC dI cA A al) {n : Int} {v : Int32} (hd : decode cc pc = .ok (.iconst n, 1)) (hv : Int32.ofInt n = v) (k : WW p l e R s m args below meth c Q dC dI cA A nL kc ks al sh (pc + 1) lv (.int v :: rest) σ) : WW p l e R s m args below meth c Q dC dI cA A nL kc ks al sh pc lv rest σ := fun H locs ls hP hD hS hl => lv_iconst C.1 C.2.1 hd hv (k H locs ls hP hD hS hl)
theorem ww_bipush (C : Fx p s m args c cc nL own dC dI cA A al) {n : Int} {v : Int32} (hd : decode cc pc = .ok (.bipush n, 2)) (hv : (Int8.ofInt n).toInt32 = v) (k : WW p l e R s m args below meth c Q dC dI cA A nL kc ks al sh (pc + 2) lv (.int v :: rest) σ) : WW p l e R s m args below meth c Q dC dI cA A nL kc ks al sh pc lv rest σ := fun H locs ls hP hD hS hl => lv_bipush C.1 C.2.1 hd hv (k H locs ls hP hD hS hl)
theorem ww_sipush (C : Fx p s m args c cc nL own dC dI cA A al) {n : Int} {v : Int32} (hd : decode cc pc = .ok (.sipush n, 3)) (hv : (Int16.ofInt n).toInt32 = v) (k : WW p l e R s m args below meth c Q dC dI cA A nL kc ks al sh (pc + 3) lv (.int v :: rest) σ) : WW p l e R s m args below meth c Q dC dI cA A nL kc ks al sh pc lv rest σ := fun H locs ls hP hD hS hl => lv_sipush C.1 C.2.1 hd hv (k H locs ls hP hD hS hl)
theorem ww_lconst (C : Fx p s m args c cc nL own dC dI cA A al) {n : Fin 2} {v : Int64} (hd : decode cc pc = .ok (.lconst n, 1)) (hv : Int64.ofNat (n : Nat) = v) (k : WW p l e R s m args below meth c Q dC dI cA A nL kc ks al sh (pc + 1) lv (.long v :: rest) σ) : WW p l e R s m args below meth c Q dC dI cA A nL kc ks al sh pc lv rest σ := fun H locs ls hP hD hS hl => lv_lconst C.1 C.2.1 hd hv (k H locs ls hP hD hS hl)
theorem ww_ldc (C : Fx p s m args c cc nL own dC dI cA A al) {index : Nat} {v : Int32} (hq : Cond.constant own index v ∈ wsG) (hd : decode cc pc = .ok (.ldc index, 2)) (k : WW p l e R s m args below meth c Q dC dI cA A nL kc ks al sh (pc + 2) lv (.int v :: rest) σ) : WW p l e R s m args below meth c Q dC dI cA A nL kc ks al sh pc lv rest σ := fun H locs ls hP hD hS hl => lv_ldc C.1 C.2.1 C.2.2.2.1 (C.2.2.2.2.1 _ hq) hd (k H locs ls hP hD hS hl)
theorem ww_ldcw (C : Fx p s m args c cc nL own dC dI cA A al) {index : Nat} {v : Int32} (hq : Cond.constant own index v ∈ wsG) (hd : decode cc pc = .ok (.ldc_w index, 3)) (k : WW p l e R s m args below meth c Q dC dI cA A nL kc ks al sh (pc + 3) lv (.int v :: rest) σ) : WW p l e R s m args below meth c Q dC dI cA A nL kc ks al sh pc lv rest σ := fun H locs ls hP hD hS hl => lv_ldcw C.1 C.2.1 C.2.2.2.1 (C.2.2.2.2.1 _ hq) hd (k H locs ls hP hD hS hl)
theorem ww_ldc2 (C : Fx p s m args c cc nL own dC dI cA A al) {index : Nat} {v : Int64} (hq : Cond.constantLong own index v ∈ wsG) (hd : decode cc pc = .ok (.ldc2_w index, 3)) (k : WW p l e R s m args below meth c Q dC dI cA A nL kc ks al sh (pc + 3) lv (.long v :: rest) σ) : WW p l e R s m args below meth c Q dC dI cA A nL kc ks al sh pc lv rest σ := fun H locs ls hP hD hS hl => lv_ldc2 C.1 C.2.1 C.2.2.2.1 (C.2.2.2.2.1 _ hq) hd (k H locs ls hP hD hS hl)
theorem ww_iload_n (C : Fx p s m args c cc nL own dC dI cA A al) {k : Fin 4} {x : Int32} (j : Nat) (hv : lv[j]? = some ((k : Nat), .int x)) (hd : decode cc pc = .ok (.iload_n k, 1)) (k_ : WW p l e R s m args below meth c Q dC dI cA A nL kc ks al sh (pc + 1) lv (.int x :: rest) σ) : WW p l e R s m args below meth c Q dC dI cA A nL kc ks al sh pc lv rest σ := fun H locs ls hP hD hS hl => lv_iload_n C.1 C.2.1 hd rfl (cp_at hl hv) (k_ H locs ls hP hD hS hl)
theorem ww_iload (C : Fx p s m args c cc nL own dC dI cA A al) {i : Nat} {x : Int32} (j : Nat) (hv : lv[j]? = some (i, .int x)) (hd : decode cc pc = .ok (.iload i, 2)) (k : WW p l e R s m args below meth c Q dC dI cA A nL kc ks al sh (pc + 2) lv (.int x :: rest) σ) : WW p l e R s m args below meth c Q dC dI cA A nL kc ks al sh pc lv rest σ := fun H locs ls hP hD hS hl => lv_iload C.1 C.2.1 hd (cp_at hl hv) (k H locs ls hP hD hS hl)
theorem ww_lload_n (C : Fx p s m args c cc nL own dC dI cA A al) {k : Fin 4} {x : Int64} (j : Nat) (hv : lv[j]? = some ((k : Nat), .long x)) (hd : decode cc pc = .ok (.lload_n k, 1)) (k_ : WW p l e R s m args below meth c Q dC dI cA A nL kc ks al sh (pc + 1) lv (.long x :: rest) σ) : WW p l e R s m args below meth c Q dC dI cA A nL kc ks al sh pc lv rest σ := fun H locs ls hP hD hS hl => lv_lload_n C.1 C.2.1 hd rfl (cp_at hl hv) (k_ H locs ls hP hD hS hl)
theorem ww_lload (C : Fx p s m args c cc nL own dC dI cA A al) {i : Nat} {x : Int64} (j : Nat) (hv : lv[j]? = some (i, .long x)) (hd : decode cc pc = .ok (.lload i, 2)) (k : WW p l e R s m args below meth c Q dC dI cA A nL kc ks al sh (pc + 2) lv (.long x :: rest) σ) : WW p l e R s m args below meth c Q dC dI cA A nL kc ks al sh pc lv rest σ := fun H locs ls hP hD hS hl => lv_lload C.1 C.2.1 hd (cp_at hl hv) (k H locs ls hP hD hS hl)
theorem ww_aload_n (C : Fx p s m args c cc nL own dC dI cA A al) {k : Fin 4} {x : Nat} (j : Nat) (hv : lv[j]? = some ((k : Nat), .ref x)) (hd : decode cc pc = .ok (.aload_n k, 1)) (k_ : WW p l e R s m args below meth c Q dC dI cA A nL kc ks al sh (pc + 1) lv (.ref x :: rest) σ) : WW p l e R s m args below meth c Q dC dI cA A nL kc ks al sh pc lv rest σ := fun H locs ls hP hD hS hl => lv_aload_n C.1 C.2.1 hd rfl (cp_at hl hv) (k_ H locs ls hP hD hS hl)
theorem ww_aload (C : Fx p s m args c cc nL own dC dI cA A al) {i : Nat} {x : Nat} (j : Nat) (hv : lv[j]? = some (i, .ref x)) (hd : decode cc pc = .ok (.aload i, 2)) (k : WW p l e R s m args below meth c Q dC dI cA A nL kc ks al sh (pc + 2) lv (.ref x :: rest) σ) : WW p l e R s m args below meth c Q dC dI cA A nL kc ks al sh pc lv rest σ := fun H locs ls hP hD hS hl => lv_aload C.1 C.2.1 hd (cp_at hl hv) (k H locs ls hP hD hS hl)
theorem ww_istore_n (C : Fx p s m args c cc nL own dC dI cA A al) {k : Fin 4} {i : Nat} {x : Int32} {lv' : List (Nat × Value)} (hd : decode cc pc = .ok (.istore_n k, 1)) (hi : (k : Nat) = i) (hn : i < nL) (hv : (i, Value.int x) :: lv.filter (fun q => !(q.1 == i) && !(q.1 + 1 == i && q.2.category == 2)) = lv') (k_ : WW p l e R s m args below meth c Q dC dI cA A nL kc ks al sh (pc + 1) lv' rest σ) : WW p l e R s m args below meth c Q dC dI cA A nL kc ks al sh pc lv (.int x :: rest) σ := fun H locs ls hP hD hS hl => lv_istore_n (lv' := lv'.map (cp al)) C.1 C.2.1 hd hi hl hn (by rw [cp_filter1, ← hv]; rfl) (fun ls hl => k_ H locs ls hP hD hS hl)
theorem ww_istore (C : Fx p s m args c cc nL own dC dI cA A al) {i : Nat} {x : Int32} {lv' : List (Nat × Value)} (hd : decode cc pc = .ok (.istore i, 2)) (hn : i < nL) (hv : (i, Value.int x) :: lv.filter (fun q => !(q.1 == i) && !(q.1 + 1 == i && q.2.category == 2)) = lv') (k : WW p l e R s m args below meth c Q dC dI cA A nL kc ks al sh (pc + 2) lv' rest σ) : WW p l e R s m args below meth c Q dC dI cA A nL kc ks al sh pc lv (.int x :: rest) σ := fun H locs ls hP hD hS hl => lv_istore (lv' := lv'.map (cp al)) C.1 C.2.1 hd hl hn (by rw [cp_filter1, ← hv]; rfl) (fun ls hl => k H locs ls hP hD hS hl)
theorem ww_astore_n (C : Fx p s m args c cc nL own dC dI cA A al) {k : Fin 4} {i : Nat} {x : Nat} {lv' : List (Nat × Value)} (hd : decode cc pc = .ok (.astore_n k, 1)) (hi : (k : Nat) = i) (hn : i < nL) (hv : (i, Value.ref x) :: lv.filter (fun q => !(q.1 == i) && !(q.1 + 1 == i && q.2.category == 2)) = lv') (k_ : WW p l e R s m args below meth c Q dC dI cA A nL kc ks al sh (pc + 1) lv' rest σ) : WW p l e R s m args below meth c Q dC dI cA A nL kc ks al sh pc lv (.ref x :: rest) σ := fun H locs ls hP hD hS hl => lv_astore_n (lv' := lv'.map (cp al)) C.1 C.2.1 hd hi hl hn (by rw [cp_filter1, ← hv]; rfl) (fun ls hl => k_ H locs ls hP hD hS hl)
theorem ww_astore (C : Fx p s m args c cc nL own dC dI cA A al) {i : Nat} {x : Nat} {lv' : List (Nat × Value)} (hd : decode cc pc = .ok (.astore i, 2)) (hn : i < nL) (hv : (i, Value.ref x) :: lv.filter (fun q => !(q.1 == i) && !(q.1 + 1 == i && q.2.category == 2)) = lv') (k : WW p l e R s m args below meth c Q dC dI cA A nL kc ks al sh (pc + 2) lv' rest σ) : WW p l e R s m args below meth c Q dC dI cA A nL kc ks al sh pc lv (.ref x :: rest) σ := fun H locs ls hP hD hS hl => lv_astore (lv' := lv'.map (cp al)) C.1 C.2.1 hd hl hn (by rw [cp_filter1, ← hv]; rfl) (fun ls hl => k H locs ls hP hD hS hl)
theorem ww_lstore_n (C : Fx p s m args c cc nL own dC dI cA A al) {k : Fin 4} {i : Nat} {x : Int64} {lv' : List (Nat × Value)} (hd : decode cc pc = .ok (.lstore_n k, 1)) (hi : (k : Nat) = i) (hn : i + 1 < nL) (hv : (i, Value.long x) :: lv.filter (fun q => !(q.1 == i) && (!(q.1 == i + 1) && !(q.1 + 1 == i && q.2.category == 2))) = lv') (k_ : WW p l e R s m args below meth c Q dC dI cA A nL kc ks al sh (pc + 1) lv' rest σ) : WW p l e R s m args below meth c Q dC dI cA A nL kc ks al sh pc lv (.long x :: rest) σ := fun H locs ls hP hD hS hl => lv_lstore_n (lv' := lv'.map (cp al)) C.1 C.2.1 hd hi hl hn (by rw [cp_filter2, ← hv]; rfl) (fun ls hl => k_ H locs ls hP hD hS hl)
theorem ww_lstore (C : Fx p s m args c cc nL own dC dI cA A al) {i : Nat} {x : Int64} {lv' : List (Nat × Value)} (hd : decode cc pc = .ok (.lstore i, 2)) (hn : i + 1 < nL) (hv : (i, Value.long x) :: lv.filter (fun q => !(q.1 == i) && (!(q.1 == i + 1) && !(q.1 + 1 == i && q.2.category == 2))) = lv') (k : WW p l e R s m args below meth c Q dC dI cA A nL kc ks al sh (pc + 2) lv' rest σ) : WW p l e R s m args below meth c Q dC dI cA A nL kc ks al sh pc lv (.long x :: rest) σ := fun H locs ls hP hD hS hl => lv_lstore (lv' := lv'.map (cp al)) C.1 C.2.1 hd hl hn (by rw [cp_filter2, ← hv]; rfl) (fun ls hl => k H locs ls hP hD hS hl)
theorem ww_iinc (C : Fx p s m args c cc nL own dC dI cA A al) {i : Nat} {n : Int} {x v : Int32} {lv' : List (Nat × Value)} (j : Nat) (hj : lv[j]? = some (i, .int x)) (hd : decode cc pc = .ok (.iinc i n, 3)) (hx : x + Int32.ofInt n = v) (hn : i < nL) (hv : (i, Value.int v) :: lv.filter (fun q => !(q.1 == i) && !(q.1 + 1 == i && q.2.category == 2)) = lv') (k : WW p l e R s m args below meth c Q dC dI cA A nL kc ks al sh (pc + 3) lv' rest σ) : WW p l e R s m args below meth c Q dC dI cA A nL kc ks al sh pc lv rest σ := fun H locs ls hP hD hS hl => lv_iinc (k := j) (lv' := lv'.map (cp al)) C.1 C.2.1 hd hl (by rw [List.getElem?_map, hj]; rfl) hx hn (by rw [cp_filter1, ← hv]; rfl) (fun ls hl => k H locs ls hP hD hS hl)
theorem ww_iadd (C : Fx p s m args c cc nL own dC dI cA A al) {x y : Int32} (hd : decode cc pc = .ok (.iadd, 1)) (k : WW p l e R s m args below meth c Q dC dI cA A nL kc ks al sh (pc + 1) lv (.int (x + y) :: rest) σ) : WW p l e R s m args below meth c Q dC dI cA A nL kc ks al sh pc lv (.int y :: .int x :: rest) σ := fun H locs ls hP hD hS hl => lv_iadd C.1 C.2.1 hd (k H locs ls hP hD hS hl)
theorem ww_isub (C : Fx p s m args c cc nL own dC dI cA A al) {x y : Int32} (hd : decode cc pc = .ok (.isub, 1)) (k : WW p l e R s m args below meth c Q dC dI cA A nL kc ks al sh (pc + 1) lv (.int (x - y) :: rest) σ) : WW p l e R s m args below meth c Q dC dI cA A nL kc ks al sh pc lv (.int y :: .int x :: rest) σ := fun H locs ls hP hD hS hl => lv_isub C.1 C.2.1 hd (k H locs ls hP hD hS hl)
theorem ww_imul (C : Fx p s m args c cc nL own dC dI cA A al) {x y : Int32} (hd : decode cc pc = .ok (.imul, 1)) (k : WW p l e R s m args below meth c Q dC dI cA A nL kc ks al sh (pc + 1) lv (.int (x * y) :: rest) σ) : WW p l e R s m args below meth c Q dC dI cA A nL kc ks al sh pc lv (.int y :: .int x :: rest) σ := fun H locs ls hP hD hS hl => lv_imul C.1 C.2.1 hd (k H locs ls hP hD hS hl)
theorem ww_iand (C : Fx p s m args c cc nL own dC dI cA A al) {x y : Int32} (hd : decode cc pc = .ok (.iand, 1)) (k : WW p l e R s m args below meth c Q dC dI cA A nL kc ks al sh (pc + 1) lv (.int (x &&& y) :: rest) σ) : WW p l e R s m args below meth c Q dC dI cA A nL kc ks al sh pc lv (.int y :: .int x :: rest) σ := fun H locs ls hP hD hS hl => lv_iand C.1 C.2.1 hd (k H locs ls hP hD hS hl)
theorem ww_ior (C : Fx p s m args c cc nL own dC dI cA A al) {x y : Int32} (hd : decode cc pc = .ok (.ior, 1)) (k : WW p l e R s m args below meth c Q dC dI cA A nL kc ks al sh (pc + 1) lv (.int (x ||| y) :: rest) σ) : WW p l e R s m args below meth c Q dC dI cA A nL kc ks al sh pc lv (.int y :: .int x :: rest) σ := fun H locs ls hP hD hS hl => lv_ior C.1 C.2.1 hd (k H locs ls hP hD hS hl)
theorem ww_ixor (C : Fx p s m args c cc nL own dC dI cA A al) {x y : Int32} (hd : decode cc pc = .ok (.ixor, 1)) (k : WW p l e R s m args below meth c Q dC dI cA A nL kc ks al sh (pc + 1) lv (.int (x ^^^ y) :: rest) σ) : WW p l e R s m args below meth c Q dC dI cA A nL kc ks al sh pc lv (.int y :: .int x :: rest) σ := fun H locs ls hP hD hS hl => lv_ixor C.1 C.2.1 hd (k H locs ls hP hD hS hl)
theorem ww_ishl (C : Fx p s m args c cc nL own dC dI cA A al) {x y : Int32} (hd : decode cc pc = .ok (.ishl, 1)) (k : WW p l e R s m args below meth c Q dC dI cA A nL kc ks al sh (pc + 1) lv (.int (x <<< (y &&& 31)) :: rest) σ) : WW p l e R s m args below meth c Q dC dI cA A nL kc ks al sh pc lv (.int y :: .int x :: rest) σ := fun H locs ls hP hD hS hl => lv_ishl C.1 C.2.1 hd (k H locs ls hP hD hS hl)
theorem ww_ishr (C : Fx p s m args c cc nL own dC dI cA A al) {x y : Int32} (hd : decode cc pc = .ok (.ishr, 1)) (k : WW p l e R s m args below meth c Q dC dI cA A nL kc ks al sh (pc + 1) lv (.int (x >>> (y &&& 31)) :: rest) σ) : WW p l e R s m args below meth c Q dC dI cA A nL kc ks al sh pc lv (.int y :: .int x :: rest) σ := fun H locs ls hP hD hS hl => lv_ishr C.1 C.2.1 hd (k H locs ls hP hD hS hl)
theorem ww_iushr (C : Fx p s m args c cc nL own dC dI cA A al) {x y : Int32} (hd : decode cc pc = .ok (.iushr, 1)) (k : WW p l e R s m args below meth c Q dC dI cA A nL kc ks al sh (pc + 1) lv (.int ((x.toUInt32 >>> (y.toUInt32 &&& Int32.toUInt32 31)).toInt32) :: rest) σ) : WW p l e R s m args below meth c Q dC dI cA A nL kc ks al sh pc lv (.int y :: .int x :: rest) σ := fun H locs ls hP hD hS hl => lv_iushr C.1 C.2.1 hd rfl (k H locs ls hP hD hS hl)
theorem ww_idiv (C : Fx p s m args c cc nL own dC dI cA A al) {x y : Int32} (hd : decode cc pc = .ok (.idiv, 1)) (hy : ¬ y = 0) (k : WW p l e R s m args below meth c Q dC dI cA A nL kc ks al sh (pc + 1) lv (.int (x / y) :: rest) σ) : WW p l e R s m args below meth c Q dC dI cA A nL kc ks al sh pc lv (.int y :: .int x :: rest) σ := fun H locs ls hP hD hS hl => lv_idiv C.1 C.2.1 hd hy (k H locs ls hP hD hS hl)
theorem ww_irem (C : Fx p s m args c cc nL own dC dI cA A al) {x y : Int32} (hd : decode cc pc = .ok (.irem, 1)) (hy : ¬ y = 0) (k : WW p l e R s m args below meth c Q dC dI cA A nL kc ks al sh (pc + 1) lv (.int (x - x / y * y) :: rest) σ) : WW p l e R s m args below meth c Q dC dI cA A nL kc ks al sh pc lv (.int y :: .int x :: rest) σ := fun H locs ls hP hD hS hl => lv_irem C.1 C.2.1 hd hy (k H locs ls hP hD hS hl)
theorem ww_ldiv (C : Fx p s m args c cc nL own dC dI cA A al) {x y : Int64} (hd : decode cc pc = .ok (.ldiv, 1)) (hy : ¬ y = 0) (k : WW p l e R s m args below meth c Q dC dI cA A nL kc ks al sh (pc + 1) lv (.long (x / y) :: rest) σ) : WW p l e R s m args below meth c Q dC dI cA A nL kc ks al sh pc lv (.long y :: .long x :: rest) σ := fun H locs ls hP hD hS hl => lv_ldiv C.1 C.2.1 hd hy (k H locs ls hP hD hS hl)
theorem ww_lrem (C : Fx p s m args c cc nL own dC dI cA A al) {x y : Int64} (hd : decode cc pc = .ok (.lrem, 1)) (hy : ¬ y = 0) (k : WW p l e R s m args below meth c Q dC dI cA A nL kc ks al sh (pc + 1) lv (.long (x - x / y * y) :: rest) σ) : WW p l e R s m args below meth c Q dC dI cA A nL kc ks al sh pc lv (.long y :: .long x :: rest) σ := fun H locs ls hP hD hS hl => lv_lrem C.1 C.2.1 hd hy (k H locs ls hP hD hS hl)
theorem ww_ineg (C : Fx p s m args c cc nL own dC dI cA A al) {x : Int32} (hd : decode cc pc = .ok (.ineg, 1)) (k : WW p l e R s m args below meth c Q dC dI cA A nL kc ks al sh (pc + 1) lv (.int (-x) :: rest) σ) : WW p l e R s m args below meth c Q dC dI cA A nL kc ks al sh pc lv (.int x :: rest) σ := fun H locs ls hP hD hS hl => lv_ineg C.1 C.2.1 hd (k H locs ls hP hD hS hl)
theorem ww_ladd (C : Fx p s m args c cc nL own dC dI cA A al) {x y : Int64} (hd : decode cc pc = .ok (.ladd, 1)) (k : WW p l e R s m args below meth c Q dC dI cA A nL kc ks al sh (pc + 1) lv (.long (x + y) :: rest) σ) : WW p l e R s m args below meth c Q dC dI cA A nL kc ks al sh pc lv (.long y :: .long x :: rest) σ := fun H locs ls hP hD hS hl => lv_ladd C.1 C.2.1 hd (k H locs ls hP hD hS hl)
theorem ww_lsub (C : Fx p s m args c cc nL own dC dI cA A al) {x y : Int64} (hd : decode cc pc = .ok (.lsub, 1)) (k : WW p l e R s m args below meth c Q dC dI cA A nL kc ks al sh (pc + 1) lv (.long (x - y) :: rest) σ) : WW p l e R s m args below meth c Q dC dI cA A nL kc ks al sh pc lv (.long y :: .long x :: rest) σ := fun H locs ls hP hD hS hl => lv_lsub C.1 C.2.1 hd (k H locs ls hP hD hS hl)
theorem ww_lmul (C : Fx p s m args c cc nL own dC dI cA A al) {x y : Int64} (hd : decode cc pc = .ok (.lmul, 1)) (k : WW p l e R s m args below meth c Q dC dI cA A nL kc ks al sh (pc + 1) lv (.long (x * y) :: rest) σ) : WW p l e R s m args below meth c Q dC dI cA A nL kc ks al sh pc lv (.long y :: .long x :: rest) σ := fun H locs ls hP hD hS hl => lv_lmul C.1 C.2.1 hd (k H locs ls hP hD hS hl)
theorem ww_land (C : Fx p s m args c cc nL own dC dI cA A al) {x y : Int64} (hd : decode cc pc = .ok (.land, 1)) (k : WW p l e R s m args below meth c Q dC dI cA A nL kc ks al sh (pc + 1) lv (.long (x &&& y) :: rest) σ) : WW p l e R s m args below meth c Q dC dI cA A nL kc ks al sh pc lv (.long y :: .long x :: rest) σ := fun H locs ls hP hD hS hl => lv_land C.1 C.2.1 hd (k H locs ls hP hD hS hl)
theorem ww_lor (C : Fx p s m args c cc nL own dC dI cA A al) {x y : Int64} (hd : decode cc pc = .ok (.lor, 1)) (k : WW p l e R s m args below meth c Q dC dI cA A nL kc ks al sh (pc + 1) lv (.long (x ||| y) :: rest) σ) : WW p l e R s m args below meth c Q dC dI cA A nL kc ks al sh pc lv (.long y :: .long x :: rest) σ := fun H locs ls hP hD hS hl => lv_lor C.1 C.2.1 hd (k H locs ls hP hD hS hl)
theorem ww_lxor (C : Fx p s m args c cc nL own dC dI cA A al) {x y : Int64} (hd : decode cc pc = .ok (.lxor, 1)) (k : WW p l e R s m args below meth c Q dC dI cA A nL kc ks al sh (pc + 1) lv (.long (x ^^^ y) :: rest) σ) : WW p l e R s m args below meth c Q dC dI cA A nL kc ks al sh pc lv (.long y :: .long x :: rest) σ := fun H locs ls hP hD hS hl => lv_lxor C.1 C.2.1 hd (k H locs ls hP hD hS hl)
theorem ww_lushr (C : Fx p s m args c cc nL own dC dI cA A al) {x : Int64} {y : Int32} (hd : decode cc pc = .ok (.lushr, 1)) (k : WW p l e R s m args below meth c Q dC dI cA A nL kc ks al sh (pc + 1) lv (.long ((x.toUInt64 >>> (y.toInt64.toUInt64 &&& Int64.toUInt64 63)).toInt64) :: rest) σ) : WW p l e R s m args below meth c Q dC dI cA A nL kc ks al sh pc lv (.int y :: .long x :: rest) σ := fun H locs ls hP hD hS hl => lv_lushr C.1 C.2.1 hd rfl (k H locs ls hP hD hS hl)
theorem ww_lshl (C : Fx p s m args c cc nL own dC dI cA A al) {x : Int64} {y : Int32} (hd : decode cc pc = .ok (.lshl, 1)) (k : WW p l e R s m args below meth c Q dC dI cA A nL kc ks al sh (pc + 1) lv (.long (x <<< (y.toInt64 &&& 63)) :: rest) σ) : WW p l e R s m args below meth c Q dC dI cA A nL kc ks al sh pc lv (.int y :: .long x :: rest) σ := fun H locs ls hP hD hS hl => lv_lshl C.1 C.2.1 hd rfl (k H locs ls hP hD hS hl)
theorem ww_i2l (C : Fx p s m args c cc nL own dC dI cA A al) {x : Int32} (hd : decode cc pc = .ok (.i2l, 1)) (k : WW p l e R s m args below meth c Q dC dI cA A nL kc ks al sh (pc + 1) lv (.long x.toInt64 :: rest) σ) : WW p l e R s m args below meth c Q dC dI cA A nL kc ks al sh pc lv (.int x :: rest) σ := fun H locs ls hP hD hS hl => lv_i2l C.1 C.2.1 hd rfl (k H locs ls hP hD hS hl)
theorem ww_l2i (C : Fx p s m args c cc nL own dC dI cA A al) {x : Int64} (hd : decode cc pc = .ok (.l2i, 1)) (k : WW p l e R s m args below meth c Q dC dI cA A nL kc ks al sh (pc + 1) lv (.int x.toInt32 :: rest) σ) : WW p l e R s m args below meth c Q dC dI cA A nL kc ks al sh pc lv (.long x :: rest) σ := fun H locs ls hP hD hS hl => lv_l2i C.1 C.2.1 hd rfl (k H locs ls hP hD hS hl)
theorem ww_lcmp (C : Fx p s m args c cc nL own dC dI cA A al) {x y : Int64} (hd : decode cc pc = .ok (.lcmp, 1)) (k : WW p l e R s m args below meth c Q dC dI cA A nL kc ks al sh (pc + 1) lv (.int (lg_cmp x y) :: rest) σ) : WW p l e R s m args below meth c Q dC dI cA A nL kc ks al sh pc lv (.long y :: .long x :: rest) σ := fun H locs ls hP hD hS hl => W.lcmp C.1 C.2.1 hd (k H locs ls hP hD hS hl)
theorem ww_dup (C : Fx p s m args c cc nL own dC dI cA A al) {v : Value} (hc : v.category = 1) (hd : decode cc pc = .ok (.dup, 1)) (k : WW p l e R s m args below meth c Q dC dI cA A nL kc ks al sh (pc + 1) lv (v :: v :: rest) σ) : WW p l e R s m args below meth c Q dC dI cA A nL kc ks al sh pc lv (v :: rest) σ := fun H locs ls hP hD hS hl => lv_dup C.1 C.2.1 hd (by rw [cv_cat]; exact hc) (k H locs ls hP hD hS hl)
theorem ww_pop (C : Fx p s m args c cc nL own dC dI cA A al) {v : Value} (hc : v.category = 1) (hd : decode cc pc = .ok (.pop, 1)) (k : WW p l e R s m args below meth c Q dC dI cA A nL kc ks al sh (pc + 1) lv rest σ) : WW p l e R s m args below meth c Q dC dI cA A nL kc ks al sh pc lv (v :: rest) σ := fun H locs ls hP hD hS hl => lv_pop C.1 C.2.1 hd (by rw [cv_cat]; exact hc) (k H locs ls hP hD hS hl)
theorem ww_dup2 (C : Fx p s m args c cc nL own dC dI cA A al) {v w : Value} (hc : v.category = 1) (hc2 : w.category = 1) (hd : decode cc pc = .ok (.dup2, 1)) (k : WW p l e R s m args below meth c Q dC dI cA A nL kc ks al sh (pc + 1) lv (v :: w :: v :: w :: rest) σ) : WW p l e R s m args below meth c Q dC dI cA A nL kc ks al sh pc lv (v :: w :: rest) σ := fun H locs ls hP hD hS hl => lv_dup2_11 C.1 C.2.1 hd (by rw [cv_cat]; exact hc) (by rw [cv_cat]; exact hc2) (k H locs ls hP hD hS hl)
theorem ww_goto (C : Fx p s m args c cc nL own dC dI cA A al) {off : Int} {tgt : Nat} (hd : decode cc pc = .ok (.goto off, 3)) (ht : (pc : Int) + off = (tgt : Int)) (k : WW p l e R s m args below meth c Q dC dI cA A nL kc ks al sh tgt lv rest σ) : WW p l e R s m args below meth c Q dC dI cA A nL kc ks al sh pc lv rest σ := fun H locs ls hP hD hS hl => lv_goto C.1 C.2.1 hd ht (k H locs ls hP hD hS hl)
theorem ww_if_eq (C : Fx p s m args c cc nL own dC dI cA A al) {x : Int32} {off : Int} {tgt : Nat} (hd : decode cc pc = .ok (.ifCond .eq off, 3)) (ht : (pc : Int) + off = (tgt : Int)) (kt : x = 0 → WW p l e R s m args below meth c Q dC dI cA A nL kc ks al sh tgt lv rest σ) (kf : ¬ x = 0 → WW p l e R s m args below meth c Q dC dI cA A nL kc ks al sh (pc + 3) lv rest σ) : WW p l e R s m args below meth c Q dC dI cA A nL kc ks al sh pc lv (.int x :: rest) σ := fun H locs ls hP hD hS hl => lv_if_eq C.1 C.2.1 hd ht (fun h => kt h H locs ls hP hD hS hl) (fun h => kf h H locs ls hP hD hS hl)
theorem ww_icmp_eq (C : Fx p s m args c cc nL own dC dI cA A al) {x y : Int32} {off : Int} {tgt : Nat} (hd : decode cc pc = .ok (.if_icmp .eq off, 3)) (ht : (pc : Int) + off = (tgt : Int)) (kt : x = y → WW p l e R s m args below meth c Q dC dI cA A nL kc ks al sh tgt lv rest σ) (kf : ¬ x = y → WW p l e R s m args below meth c Q dC dI cA A nL kc ks al sh (pc + 3) lv rest σ) : WW p l e R s m args below meth c Q dC dI cA A nL kc ks al sh pc lv (.int y :: .int x :: rest) σ := fun H locs ls hP hD hS hl => lv_icmp_eq C.1 C.2.1 hd ht (fun h => kt h H locs ls hP hD hS hl) (fun h => kf h H locs ls hP hD hS hl)
theorem ww_if_ne (C : Fx p s m args c cc nL own dC dI cA A al) {x : Int32} {off : Int} {tgt : Nat} (hd : decode cc pc = .ok (.ifCond .ne off, 3)) (ht : (pc : Int) + off = (tgt : Int)) (kt : ¬ x = 0 → WW p l e R s m args below meth c Q dC dI cA A nL kc ks al sh tgt lv rest σ) (kf : x = 0 → WW p l e R s m args below meth c Q dC dI cA A nL kc ks al sh (pc + 3) lv rest σ) : WW p l e R s m args below meth c Q dC dI cA A nL kc ks al sh pc lv (.int x :: rest) σ := fun H locs ls hP hD hS hl => lv_if_ne C.1 C.2.1 hd ht (fun h => kt h H locs ls hP hD hS hl) (fun h => kf h H locs ls hP hD hS hl)
theorem ww_icmp_ne (C : Fx p s m args c cc nL own dC dI cA A al) {x y : Int32} {off : Int} {tgt : Nat} (hd : decode cc pc = .ok (.if_icmp .ne off, 3)) (ht : (pc : Int) + off = (tgt : Int)) (kt : ¬ x = y → WW p l e R s m args below meth c Q dC dI cA A nL kc ks al sh tgt lv rest σ) (kf : x = y → WW p l e R s m args below meth c Q dC dI cA A nL kc ks al sh (pc + 3) lv rest σ) : WW p l e R s m args below meth c Q dC dI cA A nL kc ks al sh pc lv (.int y :: .int x :: rest) σ := fun H locs ls hP hD hS hl => lv_icmp_ne C.1 C.2.1 hd ht (fun h => kt h H locs ls hP hD hS hl) (fun h => kf h H locs ls hP hD hS hl)
theorem ww_if_lt (C : Fx p s m args c cc nL own dC dI cA A al) {x : Int32} {off : Int} {tgt : Nat} (hd : decode cc pc = .ok (.ifCond .lt off, 3)) (ht : (pc : Int) + off = (tgt : Int)) (kt : x < 0 → WW p l e R s m args below meth c Q dC dI cA A nL kc ks al sh tgt lv rest σ) (kf : ¬ x < 0 → WW p l e R s m args below meth c Q dC dI cA A nL kc ks al sh (pc + 3) lv rest σ) : WW p l e R s m args below meth c Q dC dI cA A nL kc ks al sh pc lv (.int x :: rest) σ := fun H locs ls hP hD hS hl => lv_if_lt C.1 C.2.1 hd ht (fun h => kt h H locs ls hP hD hS hl) (fun h => kf h H locs ls hP hD hS hl)
theorem ww_icmp_lt (C : Fx p s m args c cc nL own dC dI cA A al) {x y : Int32} {off : Int} {tgt : Nat} (hd : decode cc pc = .ok (.if_icmp .lt off, 3)) (ht : (pc : Int) + off = (tgt : Int)) (kt : x < y → WW p l e R s m args below meth c Q dC dI cA A nL kc ks al sh tgt lv rest σ) (kf : ¬ x < y → WW p l e R s m args below meth c Q dC dI cA A nL kc ks al sh (pc + 3) lv rest σ) : WW p l e R s m args below meth c Q dC dI cA A nL kc ks al sh pc lv (.int y :: .int x :: rest) σ := fun H locs ls hP hD hS hl => lv_icmp_lt C.1 C.2.1 hd ht (fun h => kt h H locs ls hP hD hS hl) (fun h => kf h H locs ls hP hD hS hl)
theorem ww_if_ge (C : Fx p s m args c cc nL own dC dI cA A al) {x : Int32} {off : Int} {tgt : Nat} (hd : decode cc pc = .ok (.ifCond .ge off, 3)) (ht : (pc : Int) + off = (tgt : Int)) (kt : 0 ≤ x → WW p l e R s m args below meth c Q dC dI cA A nL kc ks al sh tgt lv rest σ) (kf : ¬ 0 ≤ x → WW p l e R s m args below meth c Q dC dI cA A nL kc ks al sh (pc + 3) lv rest σ) : WW p l e R s m args below meth c Q dC dI cA A nL kc ks al sh pc lv (.int x :: rest) σ := fun H locs ls hP hD hS hl => lv_if_ge C.1 C.2.1 hd ht (fun h => kt h H locs ls hP hD hS hl) (fun h => kf h H locs ls hP hD hS hl)
theorem ww_icmp_ge (C : Fx p s m args c cc nL own dC dI cA A al) {x y : Int32} {off : Int} {tgt : Nat} (hd : decode cc pc = .ok (.if_icmp .ge off, 3)) (ht : (pc : Int) + off = (tgt : Int)) (kt : y ≤ x → WW p l e R s m args below meth c Q dC dI cA A nL kc ks al sh tgt lv rest σ) (kf : ¬ y ≤ x → WW p l e R s m args below meth c Q dC dI cA A nL kc ks al sh (pc + 3) lv rest σ) : WW p l e R s m args below meth c Q dC dI cA A nL kc ks al sh pc lv (.int y :: .int x :: rest) σ := fun H locs ls hP hD hS hl => lv_icmp_ge C.1 C.2.1 hd ht (fun h => kt h H locs ls hP hD hS hl) (fun h => kf h H locs ls hP hD hS hl)
theorem ww_if_gt (C : Fx p s m args c cc nL own dC dI cA A al) {x : Int32} {off : Int} {tgt : Nat} (hd : decode cc pc = .ok (.ifCond .gt off, 3)) (ht : (pc : Int) + off = (tgt : Int)) (kt : 0 < x → WW p l e R s m args below meth c Q dC dI cA A nL kc ks al sh tgt lv rest σ) (kf : ¬ 0 < x → WW p l e R s m args below meth c Q dC dI cA A nL kc ks al sh (pc + 3) lv rest σ) : WW p l e R s m args below meth c Q dC dI cA A nL kc ks al sh pc lv (.int x :: rest) σ := fun H locs ls hP hD hS hl => lv_if_gt C.1 C.2.1 hd ht (fun h => kt h H locs ls hP hD hS hl) (fun h => kf h H locs ls hP hD hS hl)
theorem ww_icmp_gt (C : Fx p s m args c cc nL own dC dI cA A al) {x y : Int32} {off : Int} {tgt : Nat} (hd : decode cc pc = .ok (.if_icmp .gt off, 3)) (ht : (pc : Int) + off = (tgt : Int)) (kt : y < x → WW p l e R s m args below meth c Q dC dI cA A nL kc ks al sh tgt lv rest σ) (kf : ¬ y < x → WW p l e R s m args below meth c Q dC dI cA A nL kc ks al sh (pc + 3) lv rest σ) : WW p l e R s m args below meth c Q dC dI cA A nL kc ks al sh pc lv (.int y :: .int x :: rest) σ := fun H locs ls hP hD hS hl => lv_icmp_gt C.1 C.2.1 hd ht (fun h => kt h H locs ls hP hD hS hl) (fun h => kf h H locs ls hP hD hS hl)
theorem ww_if_le (C : Fx p s m args c cc nL own dC dI cA A al) {x : Int32} {off : Int} {tgt : Nat} (hd : decode cc pc = .ok (.ifCond .le off, 3)) (ht : (pc : Int) + off = (tgt : Int)) (kt : x ≤ 0 → WW p l e R s m args below meth c Q dC dI cA A nL kc ks al sh tgt lv rest σ) (kf : ¬ x ≤ 0 → WW p l e R s m args below meth c Q dC dI cA A nL kc ks al sh (pc + 3) lv rest σ) : WW p l e R s m args below meth c Q dC dI cA A nL kc ks al sh pc lv (.int x :: rest) σ := fun H locs ls hP hD hS hl => lv_if_le C.1 C.2.1 hd ht (fun h => kt h H locs ls hP hD hS hl) (fun h => kf h H locs ls hP hD hS hl)
theorem ww_icmp_le (C : Fx p s m args c cc nL own dC dI cA A al) {x y : Int32} {off : Int} {tgt : Nat} (hd : decode cc pc = .ok (.if_icmp .le off, 3)) (ht : (pc : Int) + off = (tgt : Int)) (kt : x ≤ y → WW p l e R s m args below meth c Q dC dI cA A nL kc ks al sh tgt lv rest σ) (kf : ¬ x ≤ y → WW p l e R s m args below meth c Q dC dI cA A nL kc ks al sh (pc + 3) lv rest σ) : WW p l e R s m args below meth c Q dC dI cA A nL kc ks al sh pc lv (.int y :: .int x :: rest) σ := fun H locs ls hP hD hS hl => lv_icmp_le C.1 C.2.1 hd ht (fun h => kt h H locs ls hP hD hS hl) (fun h => kf h H locs ls hP hD hS hl)
theorem ww_table (C : Fx p s m args c cc nL own dC dI cA A al) {dflt lo hi : Int} {offs : Array Int} {len : Nat} {x : Int32} {off : Int} {tgt : Nat} (hd : decode cc pc = .ok (.tableswitch dflt lo hi offs, len)) (h1 : ¬ x.toInt < lo) (h2 : ¬ hi < x.toInt) (ho : offs[(x.toInt - lo).toNat]? = some off) (ht : (pc : Int) + off = (tgt : Int)) (k : WW p l e R s m args below meth c Q dC dI cA A nL kc ks al sh tgt lv rest σ) : WW p l e R s m args below meth c Q dC dI cA A nL kc ks al sh pc lv (.int x :: rest) σ := fun H locs ls hP hD hS hl => lv_tableIn C.1 C.2.1 hd h1 h2 ho ht (k H locs ls hP hD hS hl)
theorem ww_tableO (C : Fx p s m args c cc nL own dC dI cA A al) {dflt lo hi : Int} {offs : Array Int} {len : Nat} {x : Int32} {tgt : Nat} (hd : decode cc pc = .ok (.tableswitch dflt lo hi offs, len)) (h : x.toInt < lo ∨ hi < x.toInt) (ht : (pc : Int) + dflt = (tgt : Int)) (k : WW p l e R s m args below meth c Q dC dI cA A nL kc ks al sh tgt lv rest σ) : WW p l e R s m args below meth c Q dC dI cA A nL kc ks al sh pc lv (.int x :: rest) σ := fun H locs ls hP hD hS hl => lv_tableOut C.1 C.2.1 hd h ht (k H locs ls hP hD hS hl)
theorem ww_lookup (C : Fx p s m args c cc nL own dC dI cA A al) {dflt : Int} {ps : Array (Int × Int)} {len : Nat} {x : Int32} {off : Int} {tgt : Nat} (hd : decode cc pc = .ok (.lookupswitch dflt ps, len)) (hp : (ps.toList.zip (ps.toList.drop 1)).all (fun (a, next) => a.1 < next.1) = true) (ho : Op.lookupswitch.offset ps.toList dflt x.toInt = off) (ht : (pc : Int) + off = (tgt : Int)) (k : WW p l e R s m args below meth c Q dC dI cA A nL kc ks al sh tgt lv rest σ) : WW p l e R s m args below meth c Q dC dI cA A nL kc ks al sh pc lv (.int x :: rest) σ := fun H locs ls hP hD hS hl => lv_lookup C.1 C.2.1 hd hp ho ht (k H locs ls hP hD hS hl)
theorem ne_toInt {x : Int32} {n : Int} (h : x ≠ Int32.ofInt n) : x.toInt ≠ n := fun q => h (by rw [← q, Int32.ofInt_toInt])
theorem ww_getI (C : Fx p s m args c cc nL own dC dI cA A al) {ci q idx N : Nat} {fs : List Fk} {Cn : String} {T : u_T} (hsh : sh[q]? = some (.inr (ci, fs))) (hc : vwCl[ci]? = some (Cn, T, N)) (hin : ∀ w ∈ u_ws Cn T N, w ∈ wsG) (k : Nat) (hk : k < N) (hlink : Cond.fieldLink own idx (T k).1 (T k).2.1 (T k).2.2.1 ∈ wsG) (hf : fs[k]? = some (none)) (hd : decode cc pc = .ok (.getfield idx, 3)) (kk : WW p l e R s m args below meth c Q dC dI cA A nL kc ks al sh (pc + 3) lv (.int (σ.1 q k) :: rest) σ) : WW p l e R s m args below meth c Q dC dI cA A nL kc ks al sh pc lv (.ref q :: rest) σ := fun H locs ls hP hD hS hl => va_get (D := (dC, dI)) (v := .int (σ.1 q k)) C.1 C.2.1 C.2.2.2.2.1 hin C.2.2.2.1 C.2.2.2.2.2.1 hP q (pic_get hsh) hc k hk (C.2.2.2.2.1 _ hlink) (fun _ h9 => h9) (by rw [cF_get, hf]; simp [fV]) hd (kk H locs ls hP hD hS hl)
theorem ww_getL (C : Fx p s m args c cc nL own dC dI cA A al) {ci q idx N : Nat} {fs : List Fk} {Cn : String} {T : u_T} (hsh : sh[q]? = some (.inr (ci, fs))) (hc : vwCl[ci]? = some (Cn, T, N)) (hin : ∀ w ∈ u_ws Cn T N, w ∈ wsG) (k : Nat) (hk : k < N) (hlink : Cond.fieldLink own idx (T k).1 (T k).2.1 (T k).2.2.1 ∈ wsG) (hf : fs[k]? = some (some none)) (hd : decode cc pc = .ok (.getfield idx, 3)) (kk : WW p l e R s m args below meth c Q dC dI cA A nL kc ks al sh (pc + 3) lv (.long (σ.2 q k) :: rest) σ) : WW p l e R s m args below meth c Q dC dI cA A nL kc ks al sh pc lv (.ref q :: rest) σ := fun H locs ls hP hD hS hl => va_get (D := (dC, dI)) (v := .long (σ.2 q k)) C.1 C.2.1 C.2.2.2.2.1 hin C.2.2.2.1 C.2.2.2.2.2.1 hP q (pic_get hsh) hc k hk (C.2.2.2.2.1 _ hlink) (fun _ h9 => h9) (by rw [cF_get, hf]; simp [fV]) hd (kk H locs ls hP hD hS hl)
theorem ww_getR (C : Fx p s m args c cc nL own dC dI cA A al) {r : Nat} {ci q idx N : Nat} {fs : List Fk} {Cn : String} {T : u_T} (hsh : sh[q]? = some (.inr (ci, fs))) (hc : vwCl[ci]? = some (Cn, T, N)) (hin : ∀ w ∈ u_ws Cn T N, w ∈ wsG) (k : Nat) (hk : k < N) (hlink : Cond.fieldLink own idx (T k).1 (T k).2.1 (T k).2.2.1 ∈ wsG) (hf : fs[k]? = some (some (some (some r)))) (hd : decode cc pc = .ok (.getfield idx, 3)) (kk : WW p l e R s m args below meth c Q dC dI cA A nL kc ks al sh (pc + 3) lv (.ref r :: rest) σ) : WW p l e R s m args below meth c Q dC dI cA A nL kc ks al sh pc lv (.ref q :: rest) σ := fun H locs ls hP hD hS hl => va_get (D := (dC, dI)) (v := .ref (al r)) C.1 C.2.1 C.2.2.2.2.1 hin C.2.2.2.1 C.2.2.2.2.2.1 hP q (pic_get hsh) hc k hk (C.2.2.2.2.1 _ hlink) (fun _ h9 => h9) (by rw [cF_get, hf]; simp [fV]) hd (kk H locs ls hP hD hS hl)
theorem ww_getIN (C : Fx p s m args c cc nL own dC dI cA A al) {ci q idx N : Nat} {fs : List Fk} {Cn : String} {T : u_T} (hsh : sh[q]? = some (.inr (ci, fs))) (hc : vwCl[ci]? = some (Cn, T, N)) (hin : ∀ w ∈ u_ws Cn T N, w ∈ wsG) (k : Nat) (hk : k < N) (hlink : (own, idx, (T k).1, (T k).2.1, (T k).2.2.1) ∈ nwF) (hf : fs[k]? = some (none)) (hd : decode cc pc = .ok (.getfield idx, 3)) (kk : WW p l e R s m args below meth c Q dC dI cA A nL kc ks al sh (pc + 3) lv (.int (σ.1 q k) :: rest) σ) : WW p l e R s m args below meth c Q dC dI cA A nL kc ks al sh pc lv (.ref q :: rest) σ := fun H locs ls hP hD hS hl => va_getN (D := (dC, dI)) (v := .int (σ.1 q k)) C.1 C.2.1 C.2.2.2.2.1 hin C.2.2.2.1 C.2.2.2.2.2.1 hP q (pic_get hsh) hc k hk (va_Nw.use rfl (C.2.2.2.2.2.2.1.1 _ hlink)) (fun _ h9 => h9) (by rw [cF_get, hf]; simp [fV]) hd (kk H locs ls hP hD hS hl)
theorem ww_getLN (C : Fx p s m args c cc nL own dC dI cA A al) {ci q idx N : Nat} {fs : List Fk} {Cn : String} {T : u_T} (hsh : sh[q]? = some (.inr (ci, fs))) (hc : vwCl[ci]? = some (Cn, T, N)) (hin : ∀ w ∈ u_ws Cn T N, w ∈ wsG) (k : Nat) (hk : k < N) (hlink : (own, idx, (T k).1, (T k).2.1, (T k).2.2.1) ∈ nwF) (hf : fs[k]? = some (some none)) (hd : decode cc pc = .ok (.getfield idx, 3)) (kk : WW p l e R s m args below meth c Q dC dI cA A nL kc ks al sh (pc + 3) lv (.long (σ.2 q k) :: rest) σ) : WW p l e R s m args below meth c Q dC dI cA A nL kc ks al sh pc lv (.ref q :: rest) σ := fun H locs ls hP hD hS hl => va_getN (D := (dC, dI)) (v := .long (σ.2 q k)) C.1 C.2.1 C.2.2.2.2.1 hin C.2.2.2.1 C.2.2.2.2.2.1 hP q (pic_get hsh) hc k hk (va_Nw.use rfl (C.2.2.2.2.2.2.1.1 _ hlink)) (fun _ h9 => h9) (by rw [cF_get, hf]; simp [fV]) hd (kk H locs ls hP hD hS hl)
theorem ww_getRN (C : Fx p s m args c cc nL own dC dI cA A al) {r : Nat} {ci q idx N : Nat} {fs : List Fk} {Cn : String} {T : u_T} (hsh : sh[q]? = some (.inr (ci, fs))) (hc : vwCl[ci]? = some (Cn, T, N)) (hin : ∀ w ∈ u_ws Cn T N, w ∈ wsG) (k : Nat) (hk : k < N) (hlink : (own, idx, (T k).1, (T k).2.1, (T k).2.2.1) ∈ nwF) (hf : fs[k]? = some (some (some (some r)))) (hd : decode cc pc = .ok (.getfield idx, 3)) (kk : WW p l e R s m args below meth c Q dC dI cA A nL kc ks al sh (pc + 3) lv (.ref r :: rest) σ) : WW p l e R s m args below meth c Q dC dI cA A nL kc ks al sh pc lv (.ref q :: rest) σ := fun H locs ls hP hD hS hl => va_getN (D := (dC, dI)) (v := .ref (al r)) C.1 C.2.1 C.2.2.2.2.1 hin C.2.2.2.1 C.2.2.2.2.2.1 hP q (pic_get hsh) hc k hk (va_Nw.use rfl (C.2.2.2.2.2.2.1.1 _ hlink)) (fun _ h9 => h9) (by rw [cF_get, hf]; simp [fV]) hd (kk H locs ls hP hD hS hl)
theorem ww_putI (C : Fx p s m args c cc nL own dC dI cA A al) {x : Int32} {ci q idx N : Nat} {fs : List Fk} {Cn : String} {T : u_T} (hsh : sh[q]? = some (.inr (ci, fs))) (hc : vwCl[ci]? = some (Cn, T, N)) (hin : ∀ w ∈ u_ws Cn T N, w ∈ wsG) (k : Nat) (hk : k < N) (hlink : Cond.fieldLink own idx (T k).1 (T k).2.1 (T k).2.2.1 ∈ wsG) (ty0 : Nat → FieldType) (hty : ∀ k, k < N → parseFieldDescriptor (T k).2.2.1 = some (ty0 k)) (hnm : ∀ a, a < N → ∀ b, b < N → a ≠ b → (T a).2.1 ≠ (T b).2.1) (hfin : (T k).2.2.2 = false) (hpd : parseFieldDescriptor (T k).2.2.1 = some .int) (hf : fs[k]? = some (none)) (hd : decode cc pc = .ok (.putfield idx, 3)) (kk : WW p l e R s m args below meth c Q dC dI cA A nL kc ks al sh (pc + 3) lv rest (sI σ q k x)) : WW p l e R s m args below meth c Q dC dI cA A nL kc ks al sh pc lv (.int x :: .ref q :: rest) σ := fun H locs ls hP hD hS hl => va_put (D := (dC, dI)) (ty := .int) (v := .int x) C.1 C.2.1 C.2.2.2.2.1 hin ty0 hty hnm C.2.2.2.1 C.2.2.2.2.2.1 hP hD hS q (pic_get hsh) hc k hk (C.2.2.2.2.1 _ hlink) (fun _ h9 => h9) hfin hpd rfl rfl (by rw [cF_len]; exact (List.getElem?_eq_some_iff.mp hf).1) hd (fun H1 locs1 hP1 hD1 hS1 => by
  rw [cF_setI hf, pic_set (x := Sum.inr (ci, cF al (sI σ q k x) q 0 fs)) hsh (oth_I σ q k x) rfl] at hP1 hD1
  exact kk H1 locs1 ls hP1 hD1 hS1 hl)
theorem ww_putL (C : Fx p s m args c cc nL own dC dI cA A al) {x : Int64} {ci q idx N : Nat} {fs : List Fk} {Cn : String} {T : u_T} (hsh : sh[q]? = some (.inr (ci, fs))) (hc : vwCl[ci]? = some (Cn, T, N)) (hin : ∀ w ∈ u_ws Cn T N, w ∈ wsG) (k : Nat) (hk : k < N) (hlink : Cond.fieldLink own idx (T k).1 (T k).2.1 (T k).2.2.1 ∈ wsG) (ty0 : Nat → FieldType) (hty : ∀ k, k < N → parseFieldDescriptor (T k).2.2.1 = some (ty0 k)) (hnm : ∀ a, a < N → ∀ b, b < N → a ≠ b → (T a).2.1 ≠ (T b).2.1) (hfin : (T k).2.2.2 = false) (hpd : parseFieldDescriptor (T k).2.2.1 = some .long) (hf : fs[k]? = some (some none)) (hd : decode cc pc = .ok (.putfield idx, 3)) (kk : WW p l e R s m args below meth c Q dC dI cA A nL kc ks al sh (pc + 3) lv rest (sL σ q k x)) : WW p l e R s m args below meth c Q dC dI cA A nL kc ks al sh pc lv (.long x :: .ref q :: rest) σ := fun H locs ls hP hD hS hl => va_put (D := (dC, dI)) (ty := .long) (v := .long x) C.1 C.2.1 C.2.2.2.2.1 hin ty0 hty hnm C.2.2.2.1 C.2.2.2.2.2.1 hP hD hS q (pic_get hsh) hc k hk (C.2.2.2.2.1 _ hlink) (fun _ h9 => h9) hfin hpd rfl rfl (by rw [cF_len]; exact (List.getElem?_eq_some_iff.mp hf).1) hd (fun H1 locs1 hP1 hD1 hS1 => by
  rw [cF_setL hf, pic_set (x := Sum.inr (ci, cF al (sL σ q k x) q 0 fs)) hsh (oth_L σ q k x) rfl] at hP1 hD1
  exact kk H1 locs1 ls hP1 hD1 hS1 hl)
theorem ww_putIN (C : Fx p s m args c cc nL own dC dI cA A al) {x : Int32} {ci q idx N : Nat} {fs : List Fk} {Cn : String} {T : u_T} (hsh : sh[q]? = some (.inr (ci, fs))) (hc : vwCl[ci]? = some (Cn, T, N)) (hin : ∀ w ∈ u_ws Cn T N, w ∈ wsG) (k : Nat) (hk : k < N) (hlink : (own, idx, (T k).1, (T k).2.1, (T k).2.2.1) ∈ nwF) (ty0 : Nat → FieldType) (hty : ∀ k, k < N → parseFieldDescriptor (T k).2.2.1 = some (ty0 k)) (hnm : ∀ a, a < N → ∀ b, b < N → a ≠ b → (T a).2.1 ≠ (T b).2.1) (hfin : (T k).2.2.2 = false) (hpd : parseFieldDescriptor (T k).2.2.1 = some .int) (hf : fs[k]? = some (none)) (hd : decode cc pc = .ok (.putfield idx, 3)) (kk : WW p l e R s m args below meth c Q dC dI cA A nL kc ks al sh (pc + 3) lv rest (sI σ q k x)) : WW p l e R s m args below meth c Q dC dI cA A nL kc ks al sh pc lv (.int x :: .ref q :: rest) σ := fun H locs ls hP hD hS hl => va_putN (D := (dC, dI)) (ty := .int) (v := .int x) C.1 C.2.1 C.2.2.2.2.1 hin ty0 hty hnm C.2.2.2.1 C.2.2.2.2.2.1 hP hD hS q (pic_get hsh) hc k hk (va_Nw.use rfl (C.2.2.2.2.2.2.1.1 _ hlink)) (fun _ h9 => h9) hfin hpd rfl rfl (by rw [cF_len]; exact (List.getElem?_eq_some_iff.mp hf).1) hd (fun H1 locs1 hP1 hD1 hS1 => by
  rw [cF_setI hf, pic_set (x := Sum.inr (ci, cF al (sI σ q k x) q 0 fs)) hsh (oth_I σ q k x) rfl] at hP1 hD1
  exact kk H1 locs1 ls hP1 hD1 hS1 hl)
theorem ww_putLN (C : Fx p s m args c cc nL own dC dI cA A al) {x : Int64} {ci q idx N : Nat} {fs : List Fk} {Cn : String} {T : u_T} (hsh : sh[q]? = some (.inr (ci, fs))) (hc : vwCl[ci]? = some (Cn, T, N)) (hin : ∀ w ∈ u_ws Cn T N, w ∈ wsG) (k : Nat) (hk : k < N) (hlink : (own, idx, (T k).1, (T k).2.1, (T k).2.2.1) ∈ nwF) (ty0 : Nat → FieldType) (hty : ∀ k, k < N → parseFieldDescriptor (T k).2.2.1 = some (ty0 k)) (hnm : ∀ a, a < N → ∀ b, b < N → a ≠ b → (T a).2.1 ≠ (T b).2.1) (hfin : (T k).2.2.2 = false) (hpd : parseFieldDescriptor (T k).2.2.1 = some .long) (hf : fs[k]? = some (some none)) (hd : decode cc pc = .ok (.putfield idx, 3)) (kk : WW p l e R s m args below meth c Q dC dI cA A nL kc ks al sh (pc + 3) lv rest (sL σ q k x)) : WW p l e R s m args below meth c Q dC dI cA A nL kc ks al sh pc lv (.long x :: .ref q :: rest) σ := fun H locs ls hP hD hS hl => va_putN (D := (dC, dI)) (ty := .long) (v := .long x) C.1 C.2.1 C.2.2.2.2.1 hin ty0 hty hnm C.2.2.2.1 C.2.2.2.2.2.1 hP hD hS q (pic_get hsh) hc k hk (va_Nw.use rfl (C.2.2.2.2.2.2.1.1 _ hlink)) (fun _ h9 => h9) hfin hpd rfl rfl (by rw [cF_len]; exact (List.getElem?_eq_some_iff.mp hf).1) hd (fun H1 locs1 hP1 hD1 hS1 => by
  rw [cF_setL hf, pic_set (x := Sum.inr (ci, cF al (sL σ q k x) q 0 fs)) hsh (oth_L σ q k x) rfl] at hP1 hD1
  exact kk H1 locs1 ls hP1 hD1 hS1 hl)
theorem ww_iald (C : Fx p s m args c cc nL own dC dI cA A al) {q n : Nat} {rs : List (Option Nat)} {i : Int32} (hsh : sh[q]? = some (.inl (0, n, rs))) (hin : vp_in i n) (hd : decode cc pc = .ok (.iaload, 1)) (kk : WW p l e R s m args below meth c Q dC dI cA A nL kc ks al sh (pc + 1) lv (.int (σ.1 q i.toNatClampNeg) :: rest) σ) : WW p l e R s m args below meth c Q dC dI cA A nL kc ks al sh pc lv (.int i :: .ref q :: rest) σ := fun H locs ls hP hD hS hl => va_iald C.1 C.2.1 C.2.2.2.2.2.1 hP q 0 (pic_get hsh) rfl hin hd (kk H locs ls hP hD hS hl)
theorem ww_lald (C : Fx p s m args c cc nL own dC dI cA A al) {q n : Nat} {rs : List (Option Nat)} {i : Int32} (hsh : sh[q]? = some (.inl (1, n, rs))) (hin : vp_in i n) (hd : decode cc pc = .ok (.laload, 1)) (kk : WW p l e R s m args below meth c Q dC dI cA A nL kc ks al sh (pc + 1) lv (.long (σ.2 q i.toNatClampNeg) :: rest) σ) : WW p l e R s m args below meth c Q dC dI cA A nL kc ks al sh pc lv (.int i :: .ref q :: rest) σ := fun H locs ls hP hD hS hl => va_lald C.1 C.2.1 C.2.2.2.2.2.1 hP q 1 (pic_get hsh) rfl hin hd (kk H locs ls hP hD hS hl)
theorem ww_zald (C : Fx p s m args c cc nL own dC dI cA A al) {q n : Nat} {rs : List (Option Nat)} {i : Int32} (hsh : sh[q]? = some (.inl (2, n, rs))) (hin : vp_in i n) (hd : decode cc pc = .ok (.baload, 1)) (kk : WW p l e R s m args below meth c Q dC dI cA A nL kc ks al sh (pc + 1) lv (.int (σ.1 q i.toNatClampNeg) :: rest) σ) : WW p l e R s m args below meth c Q dC dI cA A nL kc ks al sh pc lv (.int i :: .ref q :: rest) σ := fun H locs ls hP hD hS hl => va_zald C.1 C.2.1 C.2.2.2.2.2.1 hP q 2 (pic_get hsh) rfl hin hd (kk H locs ls hP hD hS hl)
theorem ww_iast (C : Fx p s m args c cc nL own dC dI cA A al) {q n : Nat} {rs : List (Option Nat)} {i : Int32} {x : Int32} (hsh : sh[q]? = some (.inl (0, n, rs))) (hin : vp_in i n) (hd : decode cc pc = .ok (.iastore, 1)) (kk : WW p l e R s m args below meth c Q dC dI cA A nL kc ks al sh (pc + 1) lv rest (sI σ q i.toNatClampNeg x)) : WW p l e R s m args below meth c Q dC dI cA A nL kc ks al sh pc lv (.int x :: .int i :: .ref q :: rest) σ := fun H locs ls hP hD hS hl => va_iast C.1 C.2.1 C.2.2.2.2.2.1 hP hD hS q 0 (pic_get hsh) rfl hin hd (fun H1 locs1 hP1 hD1 hS1 => by
  rw [pic_set hsh (oth_I σ q i.toNatClampNeg x) (by simp [cE, sI])] at hP1 hD1
  exact kk H1 locs1 ls hP1 hD1 hS1 hl)
theorem ww_last (C : Fx p s m args c cc nL own dC dI cA A al) {q n : Nat} {rs : List (Option Nat)} {i : Int32} {x : Int64} (hsh : sh[q]? = some (.inl (1, n, rs))) (hin : vp_in i n) (hd : decode cc pc = .ok (.lastore, 1)) (kk : WW p l e R s m args below meth c Q dC dI cA A nL kc ks al sh (pc + 1) lv rest (sL σ q i.toNatClampNeg x)) : WW p l e R s m args below meth c Q dC dI cA A nL kc ks al sh pc lv (.long x :: .int i :: .ref q :: rest) σ := fun H locs ls hP hD hS hl => va_last C.1 C.2.1 C.2.2.2.2.2.1 hP hD hS q 1 (pic_get hsh) rfl hin hd (fun H1 locs1 hP1 hD1 hS1 => by
  rw [pic_set hsh (oth_L σ q i.toNatClampNeg x) (by simp [cE, sL])] at hP1 hD1
  exact kk H1 locs1 ls hP1 hD1 hS1 hl)
theorem ww_zast (C : Fx p s m args c cc nL own dC dI cA A al) {q n : Nat} {rs : List (Option Nat)} {i : Int32} {x : Int32} (hsh : sh[q]? = some (.inl (2, n, rs))) (hin : vp_in i n) (hd : decode cc pc = .ok (.bastore, 1)) (kk : WW p l e R s m args below meth c Q dC dI cA A nL kc ks al sh (pc + 1) lv rest (sI σ q i.toNatClampNeg (vp_nar .boolean x))) : WW p l e R s m args below meth c Q dC dI cA A nL kc ks al sh pc lv (.int x :: .int i :: .ref q :: rest) σ := fun H locs ls hP hD hS hl => va_zast C.1 C.2.1 C.2.2.2.2.2.1 hP hD hS q 2 (pic_get hsh) rfl hin hd (fun H1 locs1 hP1 hD1 hS1 => by
  rw [pic_set hsh (oth_I σ q i.toNatClampNeg (vp_nar .boolean x)) (by simp [cE, sI])] at hP1 hD1
  exact kk H1 locs1 ls hP1 hD1 hS1 hl)
theorem ww_alen (C : Fx p s m args c cc nL own dC dI cA A al) {q t n : Nat} {rs : List (Option Nat)} (ht : t = 0 ∨ t = 1) (hsh : sh[q]? = some (.inl (t, n, rs))) (hd : decode cc pc = .ok (.arraylength, 1)) (kk : WW p l e R s m args below meth c Q dC dI cA A nL kc ks al sh (pc + 1) lv (.int (Int32.ofNat n) :: rest) σ) : WW p l e R s m args below meth c Q dC dI cA A nL kc ks al sh pc lv (.ref q :: rest) σ := fun H locs ls hP hD hS hl => by
  rcases ht with rfl | rfl
  · exact va_alen C.1 C.2.1 C.2.2.2.2.2.1 hP q 0 (pic_get hsh) rfl rfl hd (kk H locs ls hP hD hS hl)
  · exact va_alen C.1 C.2.1 C.2.2.2.2.2.1 hP q 1 (pic_get hsh) rfl rfl hd (kk H locs ls hP hD hS hl)
theorem ww_aald (C : Fx p s m args c cc nL own dC dI cA A al) {q n r : Nat} {rs : List (Option Nat)} {i : Int32} (hsh : sh[q]? = some (.inl (3, n, rs))) (hin : vp_in i n) (hr : rs[i.toNatClampNeg]? = some (some r)) (hd : decode cc pc = .ok (.aaload, 1)) (kk : WW p l e R s m args below meth c Q dC dI cA A nL kc ks al sh (pc + 1) lv (.ref r :: rest) σ) : WW p l e R s m args below meth c Q dC dI cA A nL kc ks al sh pc lv (.int i :: .ref q :: rest) σ := fun H locs ls hP hD hS hl => va_aldq (C := "LockWatch$Row") C.1 C.2.1 C.2.2.2.2.2.1 hP q 3 (pic_get hsh) rfl hin hd (by rw [hr]; exact kk H locs ls hP hD hS hl)
theorem ww_gsD (C : Fx p s m args c cc nL own dC dI cA A al) {idx : Nat} (hlink : Cond.fieldLink own idx "LockWatch" "DOINGS" "[J" ∈ wsG) (hd : decode cc pc = .ok (.getstatic idx, 3)) (kk : WW p l e R s m args below meth c Q dC dI cA A nL kc ks al sh (pc + 3) lv (.ref 1000 :: rest) σ) : WW p l e R s m args below meth c Q dC dI cA A nL kc ks al sh pc lv rest σ := fun H locs ls hP hD hS hl => va_gets C.1 C.2.1 C.2.2.2.2.2.2.2.1.1 hS C.2.2.2.1 (C.2.2.2.2.1 _ hlink) (fun _ h9 => h9) hd (kk H locs ls hP hD hS hl)
theorem ww_gsO (C : Fx p s m args c cc nL own dC dI cA A al) {idx : Nat} (hlink : Cond.fieldLink own idx "LockWatch" "ORDERS" "[I" ∈ wsG) (hd : decode cc pc = .ok (.getstatic idx, 3)) (kk : WW p l e R s m args below meth c Q dC dI cA A nL kc ks al sh (pc + 3) lv (.ref 1001 :: rest) σ) : WW p l e R s m args below meth c Q dC dI cA A nL kc ks al sh pc lv rest σ := fun H locs ls hP hD hS hl => va_gets C.1 C.2.1 C.2.2.2.2.2.2.2.1.2.2.1 hS C.2.2.2.1 (C.2.2.2.2.1 _ hlink) (fun _ h9 => h9) hd (kk H locs ls hP hD hS hl)
theorem ww_sldD (C : Fx p s m args c cc nL own dC dI cA A al) {i : Int32} (hin : vp_in i 5) (hd : decode cc pc = .ok (.laload, 1)) (kk : WW p l e R s m args below meth c Q dC dI cA A nL kc ks al sh (pc + 1) lv (.long (fDO i.toNatClampNeg) :: rest) σ) : WW p l e R s m args below meth c Q dC dI cA A nL kc ks al sh pc lv (.int i :: .ref 1000 :: rest) σ := fun H locs ls hP hD hS hl => va_tl C.1 C.2.1 C.2.2.2.2.2.2.2.1.2.1 hS hin rfl hd (kk H locs ls hP hD hS hl)
theorem ww_sldO (C : Fx p s m args c cc nL own dC dI cA A al) {i : Int32} (hin : vp_in i 4) (hd : decode cc pc = .ok (.iaload, 1)) (kk : WW p l e R s m args below meth c Q dC dI cA A nL kc ks al sh (pc + 1) lv (.int (fOR i.toNatClampNeg) :: rest) σ) : WW p l e R s m args below meth c Q dC dI cA A nL kc ks al sh pc lv (.int i :: .ref 1001 :: rest) σ := fun H locs ls hP hD hS hl => va_ti C.1 C.2.1 C.2.2.2.2.2.2.2.1.2.2.2 hS hin rfl hd (kk H locs ls hP hD hS hl)
theorem cv_sum (al : Nat → Nat) (rest : List Value) : ((rest.map (cv al)).map fun v => v.category).sum = (rest.map fun v => v.category).sum := by
  rw [List.map_map]; congr 1; apply List.map_congr_left; intro v _; exact cv_cat al v
theorem ww_mmax (C : Fx p s m args c cc nL own dC dI cA A al) {idx : Nat} {x y : Int32} (h1 : Cond.methodLink own idx Lib.Math.max.name ∈ wsG) (h2 : Cond.static Lib.Math.max.name ∈ wsG) (h3 : Cond.initialized "java/lang/Math" ∈ wsG) (h4 : Cond.code Lib.Math.max.name Lib.Math.max.code 2 (some .int) ∈ wsG) (hR : 1 ≤ R.frames ∧ (rest.map fun v => v.category).sum + 13 ≤ R.locals ∧ kc ≤ R.cells ∧ ks ≤ R.slots) (hd : decode cc pc = .ok (.invokestatic idx, 3)) (kk : WW p l e R s m args below meth c Q dC dI cA A nL kc ks al sh (pc + 3) lv (.int (if x < y then y else x) :: rest) σ) : WW p l e R s m args below meth c Q dC dI cA A nL kc ks al sh pc lv (.int y :: .int x :: rest) σ := fun H locs ls hP hD hS hl => va_mmax C.1 C.2.1 (C.2.2.1.trans hl.1.symm) C.2.2.2.1 (C.2.2.2.2.1 _ h1) (C.2.2.2.2.1 _ h2) (C.2.2.2.2.1 _ h3) (C.2.2.2.2.1 _ h4) hR.1 (by rw [cv_sum]; exact hR.2.1) hR.2.2.1 hR.2.2.2 hd (kk H locs ls hP hD hS hl)
theorem ww_mmin (C : Fx p s m args c cc nL own dC dI cA A al) {idx : Nat} {x y : Int32} (h1 : Cond.methodLink own idx Lib.Math.min.name ∈ wsG) (h2 : Cond.static Lib.Math.min.name ∈ wsG) (h3 : Cond.initialized "java/lang/Math" ∈ wsG) (h4 : Cond.code Lib.Math.min.name Lib.Math.min.code 2 (some .int) ∈ wsG) (hR : 1 ≤ R.frames ∧ (rest.map fun v => v.category).sum + 13 ≤ R.locals ∧ kc ≤ R.cells ∧ ks ≤ R.slots) (hd : decode cc pc = .ok (.invokestatic idx, 3)) (kk : WW p l e R s m args below meth c Q dC dI cA A nL kc ks al sh (pc + 3) lv (.int (if y < x then y else x) :: rest) σ) : WW p l e R s m args below meth c Q dC dI cA A nL kc ks al sh pc lv (.int y :: .int x :: rest) σ := fun H locs ls hP hD hS hl => va_mmin C.1 C.2.1 (C.2.2.1.trans hl.1.symm) C.2.2.2.1 (C.2.2.2.2.1 _ h1) (C.2.2.2.2.1 _ h2) (C.2.2.2.2.1 _ h3) (C.2.2.2.2.1 _ h4) hR.1 (by rw [cv_sum]; exact hR.2.1) hR.2.2.1 hR.2.2.2 hd (kk H locs ls hP hD hS hl)
theorem ww_subA (C : Fx p s m args c cc nL own dC dI cA A al) {H : Heap} {locs : List Loc} (hD : va_D A (pic cA al sh σ)) (hS : va_S A s.heap H locs) : ∀ q, AW al sh H.size q → A q := by
  intro q h
  rcases h with ⟨k, hk, rfl⟩ | h
  · exact pic_D hD hk
  · exact C.2.2.2.2.2.2.2.2 q (Nat.le_trans hS.1 h)
theorem ww_pre (C : Fx p s m args c cc nL own dC dI cA A al) {H : Heap} {locs : List Loc} (hP : va_P (dC, dI) vwCl (pic cA al sh σ) H) (hD : va_D A (pic cA al sh σ)) (hS : va_S A s.heap H locs) (U : State) (hU : U.heap = H) (hW : s.WarmedH U.vm) : WPre dC dI cA al sh σ H.size U := by
  refine ⟨by rw [hU], by rw [hU]; exact hP, va_K.moved hW.alike C.2.2.2.2.2.1, hD.weaken (fun _ _ _ _ => trivial), NW.warm hW C.2.2.2.2.2.2.1, ?_⟩
  rw [hU]
  exact C.2.2.2.2.2.2.2.1.to (fun a h1 h2 => hS.2.1 a h1 h2) (ww_subA C hD hS) hW.alike
theorem ww_vi (C : Fx p s m args c cc nL own dC dI cA A al) {y : MethodName} {bytes : ByteArray} {maxL n d idx : Nat} {ret : Option FieldType} {As rest st : List Value} {Qk : Int32 → St → Prop} {q ci N : Nat} {fs : List Fk} {Cn : String} {T : u_T} (hM : ∀ sz, Met l y (wd y bytes maxL ret) (RM d) (va_Pc ((.ref q :: As).map (cv al)) (WPre dC dI cA al sh σ sz)) (va_Qi Qk (WPost dC dI cA al sh (AW al sh sz)) (AW al sh sz)) 0 0 (AW al sh sz)) (hsh : sh[q]? = some (.inr (ci, fs))) (hc : vwCl[ci]? = some (Cn, T, N)) (h1 : Cond.methodLink own idx y ∈ wsG) (h2 : Cond.instanceMethod y ∈ wsG) (h3 : Cond.selects Cn y y ∈ wsG) (h4 : Cond.initialized Cn ∈ wsG) (h5 : Cond.code y bytes maxL ret ∈ wsG) (hy : y.cls = Cn ∧ y.cls ≠ "java/lang/invoke/MethodHandle" ∧ y.cls ≠ "java/lang/invoke/VarHandle" ∧ (parseMethodDescriptor y.desc).map (fun d => d.parameters.length) = some n) (hn : As.length = n) (hst : st = As.reverse ++ .ref q :: rest) (hR : d + 1 ≤ R.frames ∧ 8 + (maxL + 11) + 40 * d ≤ R.locals ∧ kc ≤ R.cells ∧ ks ≤ R.slots) (hr : (rest.map fun v => v.category).sum ≤ 8) (hd : decode cc pc = .ok (.invokevirtual idx, 3)) (kk : ∀ (r : Int32) (σ2 : St), Qk r σ2 → WW p l e R s m args below meth c Q dC dI cA A nL kc ks al sh (pc + 3) lv (.int r :: rest) σ2) : WW p l e R s m args below meth c Q dC dI cA A nL kc ks al sh pc lv st σ := by
  intro H locs ls hP hD hS hl
  subst hst
  refine va_calli (A1 := AW al sh H.size) (va_runV (C := Cn) (As := As.map (cv al)) (rest := rest.map (cv al)) (n := n) (bytes := bytes) (maxL := maxL) (ret := ret) (b := al q) ⟨C.1, C.2.1, C.2.2.1, C.2.2.2.1, C.2.2.2.2.1⟩ (hM H.size) (cwV n C.2.2.2.2.1 (gd_V h1 h2 h3 h4 h5) rfl rfl rfl hy ⟨hR.1, hR.2.1⟩) ⟨wpre_blind, va_recv C.2.2.2.2.2.1 hP hc (pic_get hsh), fun U hU hW => ⟨rfl, ww_pre C hP hD hS U hU hW⟩⟩ rfl (by rw [List.length_map]; exact hn) hl.1 (by simp [cv]) (lv_room (by rw [cv_sum]; exact hr)) hd ⟨hR.2.2.1, hR.2.2.2⟩) hS (fun q _ h => ww_subA C hD hS q h) (fun q h => ww_subA C hD hS q h) (fun r u t H1 locs1 ht hvm hw hB _ hk1 hS1 => ?_)
  obtain ⟨hP1, hD1⟩ := hB
  rw [ht] at hP1
  exact kk r u hw H1 locs1 ls hP1 (hD1.weaken fun _ _ _ h => ww_subA C hD hS _ h) hS1 hl
theorem ww_si (C : Fx p s m args c cc nL own dC dI cA A al) {y : MethodName} {bytes : ByteArray} {maxL n d idx : Nat} {ret : Option FieldType} {As rest st : List Value} {Qk : Int32 → St → Prop} (hM : ∀ sz, Met l y (wd y bytes maxL ret) (RM d) (va_Pc (As.map (cv al)) (WPre dC dI cA al sh σ sz)) (va_Qi Qk (WPost dC dI cA al sh (AW al sh sz)) (AW al sh sz)) 0 0 (AW al sh sz)) (h1 : Cond.methodLink own idx y ∈ wsG) (h2 : Cond.static y ∈ wsG) (h4 : Cond.initialized y.cls ∈ wsG) (h5 : Cond.code y bytes maxL ret ∈ wsG) (hy : y.cls ≠ "java/lang/invoke/MethodHandle" ∧ y.cls ≠ "java/lang/invoke/VarHandle" ∧ (parseMethodDescriptor y.desc).map (fun d => d.parameters.length) = some n) (hn : As.length = n) (hst : st = As.reverse ++ rest) (hR : d + 1 ≤ R.frames ∧ 8 + (maxL + 11) + 40 * d ≤ R.locals ∧ kc ≤ R.cells ∧ ks ≤ R.slots) (hr : (rest.map fun v => v.category).sum ≤ 8) (hd : decode cc pc = .ok (.invokestatic idx, 3)) (kk : ∀ (r : Int32) (σ2 : St), Qk r σ2 → WW p l e R s m args below meth c Q dC dI cA A nL kc ks al sh (pc + 3) lv (.int r :: rest) σ2) : WW p l e R s m args below meth c Q dC dI cA A nL kc ks al sh pc lv st σ := by
  intro H locs ls hP hD hS hl
  subst hst
  refine va_calli (A1 := AW al sh H.size) (va_runS (As := As.map (cv al)) (rest := rest.map (cv al)) (n := n) (bytes := bytes) (maxL := maxL) (ret := ret) ⟨C.1, C.2.1, C.2.2.1, C.2.2.2.1, C.2.2.2.2.1⟩ (hM H.size) (va_cwS n C.2.2.2.2.1 (gd_S h1 h2 h4 h5) rfl rfl rfl hy ⟨hR.1, hR.2.1⟩) ⟨wpre_blind, fun U hU hW => ⟨rfl, ww_pre C hP hD hS U hU hW⟩⟩ rfl (by rw [List.length_map]; exact hn) hl.1 (by simp) (lv_room (by rw [cv_sum]; exact hr)) hd ⟨hR.2.2.1, hR.2.2.2⟩) hS (fun q _ h => ww_subA C hD hS q h) (fun q h => ww_subA C hD hS q h) (fun r u t H1 locs1 ht hvm hw hB _ hk1 hS1 => ?_)
  obtain ⟨hP1, hD1⟩ := hB
  rw [ht] at hP1
  exact kk r u hw H1 locs1 ls hP1 (hD1.weaken fun _ _ _ h => ww_subA C hD hS _ h) hS1 hl
theorem ww_vl (C : Fx p s m args c cc nL own dC dI cA A al) {y : MethodName} {bytes : ByteArray} {maxL n d idx : Nat} {ret : Option FieldType} {As rest st : List Value} {Qk : Int64 → St → Prop} {q ci N : Nat} {fs : List Fk} {Cn : String} {T : u_T} (hM : ∀ sz, Met l y (wd y bytes maxL ret) (RM d) (va_Pc ((.ref q :: As).map (cv al)) (WPre dC dI cA al sh σ sz)) (va_Ql Qk (WPost dC dI cA al sh (AW al sh sz)) (AW al sh sz)) 0 0 (AW al sh sz)) (hsh : sh[q]? = some (.inr (ci, fs))) (hc : vwCl[ci]? = some (Cn, T, N)) (h1 : Cond.methodLink own idx y ∈ wsG) (h2 : Cond.instanceMethod y ∈ wsG) (h3 : Cond.selects Cn y y ∈ wsG) (h4 : Cond.initialized Cn ∈ wsG) (h5 : Cond.code y bytes maxL ret ∈ wsG) (hy : y.cls = Cn ∧ y.cls ≠ "java/lang/invoke/MethodHandle" ∧ y.cls ≠ "java/lang/invoke/VarHandle" ∧ (parseMethodDescriptor y.desc).map (fun d => d.parameters.length) = some n) (hn : As.length = n) (hst : st = As.reverse ++ .ref q :: rest) (hR : d + 1 ≤ R.frames ∧ 8 + (maxL + 11) + 40 * d ≤ R.locals ∧ kc ≤ R.cells ∧ ks ≤ R.slots) (hr : (rest.map fun v => v.category).sum ≤ 8) (hd : decode cc pc = .ok (.invokevirtual idx, 3)) (kk : ∀ (r : Int64) (σ2 : St), Qk r σ2 → WW p l e R s m args below meth c Q dC dI cA A nL kc ks al sh (pc + 3) lv (.long r :: rest) σ2) : WW p l e R s m args below meth c Q dC dI cA A nL kc ks al sh pc lv st σ := by
  intro H locs ls hP hD hS hl
  subst hst
  refine va_calll (A1 := AW al sh H.size) (va_runV (C := Cn) (As := As.map (cv al)) (rest := rest.map (cv al)) (n := n) (bytes := bytes) (maxL := maxL) (ret := ret) (b := al q) ⟨C.1, C.2.1, C.2.2.1, C.2.2.2.1, C.2.2.2.2.1⟩ (hM H.size) (cwV n C.2.2.2.2.1 (gd_V h1 h2 h3 h4 h5) rfl rfl rfl hy ⟨hR.1, hR.2.1⟩) ⟨wpre_blind, va_recv C.2.2.2.2.2.1 hP hc (pic_get hsh), fun U hU hW => ⟨rfl, ww_pre C hP hD hS U hU hW⟩⟩ rfl (by rw [List.length_map]; exact hn) hl.1 (by simp [cv]) (lv_room (by rw [cv_sum]; exact hr)) hd ⟨hR.2.2.1, hR.2.2.2⟩) hS (fun q _ h => ww_subA C hD hS q h) (fun q h => ww_subA C hD hS q h) (fun r u t H1 locs1 ht hvm hw hB _ hk1 hS1 => ?_)
  obtain ⟨hP1, hD1⟩ := hB
  rw [ht] at hP1
  exact kk r u hw H1 locs1 ls hP1 (hD1.weaken fun _ _ _ h => ww_subA C hD hS _ h) hS1 hl
theorem ww_sl (C : Fx p s m args c cc nL own dC dI cA A al) {y : MethodName} {bytes : ByteArray} {maxL n d idx : Nat} {ret : Option FieldType} {As rest st : List Value} {Qk : Int64 → St → Prop} (hM : ∀ sz, Met l y (wd y bytes maxL ret) (RM d) (va_Pc (As.map (cv al)) (WPre dC dI cA al sh σ sz)) (va_Ql Qk (WPost dC dI cA al sh (AW al sh sz)) (AW al sh sz)) 0 0 (AW al sh sz)) (h1 : Cond.methodLink own idx y ∈ wsG) (h2 : Cond.static y ∈ wsG) (h4 : Cond.initialized y.cls ∈ wsG) (h5 : Cond.code y bytes maxL ret ∈ wsG) (hy : y.cls ≠ "java/lang/invoke/MethodHandle" ∧ y.cls ≠ "java/lang/invoke/VarHandle" ∧ (parseMethodDescriptor y.desc).map (fun d => d.parameters.length) = some n) (hn : As.length = n) (hst : st = As.reverse ++ rest) (hR : d + 1 ≤ R.frames ∧ 8 + (maxL + 11) + 40 * d ≤ R.locals ∧ kc ≤ R.cells ∧ ks ≤ R.slots) (hr : (rest.map fun v => v.category).sum ≤ 8) (hd : decode cc pc = .ok (.invokestatic idx, 3)) (kk : ∀ (r : Int64) (σ2 : St), Qk r σ2 → WW p l e R s m args below meth c Q dC dI cA A nL kc ks al sh (pc + 3) lv (.long r :: rest) σ2) : WW p l e R s m args below meth c Q dC dI cA A nL kc ks al sh pc lv st σ := by
  intro H locs ls hP hD hS hl
  subst hst
  refine va_calll (A1 := AW al sh H.size) (va_runS (As := As.map (cv al)) (rest := rest.map (cv al)) (n := n) (bytes := bytes) (maxL := maxL) (ret := ret) ⟨C.1, C.2.1, C.2.2.1, C.2.2.2.1, C.2.2.2.2.1⟩ (hM H.size) (va_cwS n C.2.2.2.2.1 (gd_S h1 h2 h4 h5) rfl rfl rfl hy ⟨hR.1, hR.2.1⟩) ⟨wpre_blind, fun U hU hW => ⟨rfl, ww_pre C hP hD hS U hU hW⟩⟩ rfl (by rw [List.length_map]; exact hn) hl.1 (by simp) (lv_room (by rw [cv_sum]; exact hr)) hd ⟨hR.2.2.1, hR.2.2.2⟩) hS (fun q _ h => ww_subA C hD hS q h) (fun q h => ww_subA C hD hS q h) (fun r u t H1 locs1 ht hvm hw hB _ hk1 hS1 => ?_)
  obtain ⟨hP1, hD1⟩ := hB
  rw [ht] at hP1
  exact kk r u hw H1 locs1 ls hP1 (hD1.weaken fun _ _ _ h => ww_subA C hD hS _ h) hS1 hl
theorem ww_vv (C : Fx p s m args c cc nL own dC dI cA A al) {y : MethodName} {bytes : ByteArray} {maxL n d idx : Nat} {ret : Option FieldType} {As rest st : List Value} {Qk : St → Prop} {q ci N : Nat} {fs : List Fk} {Cn : String} {T : u_T} (hM : ∀ sz, Met l y (wd y bytes maxL ret) (RM d) (va_Pc ((.ref q :: As).map (cv al)) (WPre dC dI cA al sh σ sz)) (va_Qv Qk (WPost dC dI cA al sh (AW al sh sz)) (AW al sh sz)) 0 0 (AW al sh sz)) (hsh : sh[q]? = some (.inr (ci, fs))) (hc : vwCl[ci]? = some (Cn, T, N)) (h1 : Cond.methodLink own idx y ∈ wsG) (h2 : Cond.instanceMethod y ∈ wsG) (h3 : Cond.selects Cn y y ∈ wsG) (h4 : Cond.initialized Cn ∈ wsG) (h5 : Cond.code y bytes maxL ret ∈ wsG) (hy : y.cls = Cn ∧ y.cls ≠ "java/lang/invoke/MethodHandle" ∧ y.cls ≠ "java/lang/invoke/VarHandle" ∧ (parseMethodDescriptor y.desc).map (fun d => d.parameters.length) = some n) (hn : As.length = n) (hst : st = As.reverse ++ .ref q :: rest) (hR : d + 1 ≤ R.frames ∧ 8 + (maxL + 11) + 40 * d ≤ R.locals ∧ kc ≤ R.cells ∧ ks ≤ R.slots) (hr : (rest.map fun v => v.category).sum ≤ 8) (hd : decode cc pc = .ok (.invokevirtual idx, 3)) (kk : ∀ σ2 : St, Qk σ2 → WW p l e R s m args below meth c Q dC dI cA A nL kc ks al sh (pc + 3) lv rest σ2) : WW p l e R s m args below meth c Q dC dI cA A nL kc ks al sh pc lv st σ := by
  intro H locs ls hP hD hS hl
  subst hst
  refine va_callv (A1 := AW al sh H.size) (va_runV (C := Cn) (As := As.map (cv al)) (rest := rest.map (cv al)) (n := n) (bytes := bytes) (maxL := maxL) (ret := ret) (b := al q) ⟨C.1, C.2.1, C.2.2.1, C.2.2.2.1, C.2.2.2.2.1⟩ (hM H.size) (cwV n C.2.2.2.2.1 (gd_V h1 h2 h3 h4 h5) rfl rfl rfl hy ⟨hR.1, hR.2.1⟩) ⟨wpre_blind, va_recv C.2.2.2.2.2.1 hP hc (pic_get hsh), fun U hU hW => ⟨rfl, ww_pre C hP hD hS U hU hW⟩⟩ rfl (by rw [List.length_map]; exact hn) hl.1 (by simp [cv]) (lv_room (by rw [cv_sum]; exact hr)) hd ⟨hR.2.2.1, hR.2.2.2⟩) hS (fun q _ h => ww_subA C hD hS q h) (fun q h => ww_subA C hD hS q h) (fun u t H1 locs1 ht hvm hw hB _ hk1 hS1 => ?_)
  obtain ⟨hP1, hD1⟩ := hB
  rw [ht] at hP1
  exact kk u hw H1 locs1 ls hP1 (hD1.weaken fun _ _ _ h => ww_subA C hD hS _ h) hS1 hl
theorem ww_sv (C : Fx p s m args c cc nL own dC dI cA A al) {y : MethodName} {bytes : ByteArray} {maxL n d idx : Nat} {ret : Option FieldType} {As rest st : List Value} {Qk : St → Prop} (hM : ∀ sz, Met l y (wd y bytes maxL ret) (RM d) (va_Pc (As.map (cv al)) (WPre dC dI cA al sh σ sz)) (va_Qv Qk (WPost dC dI cA al sh (AW al sh sz)) (AW al sh sz)) 0 0 (AW al sh sz)) (h1 : Cond.methodLink own idx y ∈ wsG) (h2 : Cond.static y ∈ wsG) (h4 : Cond.initialized y.cls ∈ wsG) (h5 : Cond.code y bytes maxL ret ∈ wsG) (hy : y.cls ≠ "java/lang/invoke/MethodHandle" ∧ y.cls ≠ "java/lang/invoke/VarHandle" ∧ (parseMethodDescriptor y.desc).map (fun d => d.parameters.length) = some n) (hn : As.length = n) (hst : st = As.reverse ++ rest) (hR : d + 1 ≤ R.frames ∧ 8 + (maxL + 11) + 40 * d ≤ R.locals ∧ kc ≤ R.cells ∧ ks ≤ R.slots) (hr : (rest.map fun v => v.category).sum ≤ 8) (hd : decode cc pc = .ok (.invokestatic idx, 3)) (kk : ∀ σ2 : St, Qk σ2 → WW p l e R s m args below meth c Q dC dI cA A nL kc ks al sh (pc + 3) lv rest σ2) : WW p l e R s m args below meth c Q dC dI cA A nL kc ks al sh pc lv st σ := by
  intro H locs ls hP hD hS hl
  subst hst
  refine va_callv (A1 := AW al sh H.size) (va_runS (As := As.map (cv al)) (rest := rest.map (cv al)) (n := n) (bytes := bytes) (maxL := maxL) (ret := ret) ⟨C.1, C.2.1, C.2.2.1, C.2.2.2.1, C.2.2.2.2.1⟩ (hM H.size) (va_cwS n C.2.2.2.2.1 (gd_S h1 h2 h4 h5) rfl rfl rfl hy ⟨hR.1, hR.2.1⟩) ⟨wpre_blind, fun U hU hW => ⟨rfl, ww_pre C hP hD hS U hU hW⟩⟩ rfl (by rw [List.length_map]; exact hn) hl.1 (by simp) (lv_room (by rw [cv_sum]; exact hr)) hd ⟨hR.2.2.1, hR.2.2.2⟩) hS (fun q _ h => ww_subA C hD hS q h) (fun q h => ww_subA C hD hS q h) (fun u t H1 locs1 ht hvm hw hB _ hk1 hS1 => ?_)
  obtain ⟨hP1, hD1⟩ := hB
  rw [ht] at hP1
  exact kk u hw H1 locs1 ls hP1 (hD1.weaken fun _ _ _ h => ww_subA C hD hS _ h) hS1 hl
theorem ww_nsi (C : Fx p s m args c cc nL own dC dI cA A al) {n d : Nat} {ret : Option FieldType} {bytes : ByteArray} {maxL : Nat} {As rest st : List Value} {Qk : Int32 → St → Prop} (hown : own = RX6) (hM : ∀ sz, Met l yX8_isOneOfFour (wd yX8_isOneOfFour bytes maxL ret) (RM d) (va_Pc (As.map (cv al)) (WPre dC dI cA al sh σ sz)) (va_Qi Qk (WPost dC dI cA al sh (AW al sh sz)) (AW al sh sz)) 0 0 (AW al sh sz)) (h2 : Cond.static yX8_isOneOfFour ∈ wsG) (h4 : Cond.initialized RX8 ∈ wsG) (h5 : Cond.code yX8_isOneOfFour bytes maxL ret ∈ wsG) (hy : yX8_isOneOfFour.cls ≠ "java/lang/invoke/MethodHandle" ∧ yX8_isOneOfFour.cls ≠ "java/lang/invoke/VarHandle" ∧ (parseMethodDescriptor yX8_isOneOfFour.desc).map (fun d => d.parameters.length) = some n) (hn : As.length = n) (hst : st = As.reverse ++ rest) (hR : d + 1 ≤ R.frames ∧ 8 + (maxL + 11) + 40 * d ≤ R.locals ∧ kc ≤ R.cells ∧ ks ≤ R.slots) (hr : (rest.map fun v => v.category).sum ≤ 8) (hd : decode cc pc = .ok (.invokestatic 49, 3)) (kk : ∀ (r : Int32) (σ2 : St), Qk r σ2 → WW p l e R s m args below meth c Q dC dI cA A nL kc ks al sh (pc + 3) lv (.int r :: rest) σ2) : WW p l e R s m args below meth c Q dC dI cA A nL kc ks al sh pc lv st σ := by
  intro H locs ls hP hD hS hl
  subst hst
  subst hown
  refine va_calli (A1 := AW al sh H.size) (va_runSN (As := As.map (cv al)) (rest := rest.map (cv al)) (n := n) (bytes := bytes) (maxL := maxL) (ret := ret) ⟨C.1, C.2.1, C.2.2.1, C.2.2.2.1, C.2.2.2.2.1⟩ (hM H.size) ⟨va_cnB n C.2.2.2.2.1 (gd_wd h5) rfl rfl rfl C.2.2.2.2.2.2.1.2 (C.2.2.2.2.1 _ h4) hy ⟨hR.1, hR.2.1⟩, C.2.2.2.2.1 _ h2, trivial⟩ ⟨wpre_blind, fun U hU hW => ⟨rfl, ww_pre C hP hD hS U hU hW⟩⟩ rfl (by rw [List.length_map]; exact hn) hl.1 (by simp) (lv_room (by rw [cv_sum]; exact hr)) hd ⟨hR.2.2.1, hR.2.2.2⟩) hS (fun q _ h => ww_subA C hD hS q h) (fun q h => ww_subA C hD hS q h) (fun r u t H1 locs1 ht hvm hw hB _ hk1 hS1 => ?_)
  obtain ⟨hP1, hD1⟩ := hB
  rw [ht] at hP1
  exact kk r u hw H1 locs1 ls hP1 (hD1.weaken fun _ _ _ h => ww_subA C hD hS _ h) hS1 hl
theorem ww_copyl (C : Fx p s m args c cc nL own dC dI cA A al) {idx q0 q1 n0 n1 : Nat} {rs0 rs1 : List (Option Nat)} {sp dp n : Int32} (hs0 : sh[q0]? = some (.inl (1, n0, rs0))) (hs1 : sh[q1]? = some (.inl (1, n1, rs1))) (hlk : Cond.methodLink own idx arraycopyName ∈ wsG) (hnat : Cond.native arraycopyName ∈ wsG) (hstat : Cond.static arraycopyName ∈ wsG) (hini : Cond.initialized "java/lang/System" ∈ wsG) (h1 : ¬ sp < 0) (h2 : ¬ dp < 0) (h3 : ¬ n < 0) (h4 : sp.toNatClampNeg + n.toNatClampNeg ≤ n0) (h5 : dp.toNatClampNeg + n.toNatClampNeg ≤ n1) (hR : 1 ≤ R.frames ∧ (rest.map fun v => v.category).sum + (nativeFrameWords "java/lang/System" "arraycopy" 5 + 11) ≤ R.locals) (hd : decode cc pc = .ok (.invokestatic idx, 3)) (kk : WW p l e R s m args below meth c Q dC dI cA A nL kc ks al sh (pc + 3) lv rest (sLf σ q1 (va_cpy (σ.2 q0) (σ.2 q1) sp.toNatClampNeg dp.toNatClampNeg n.toNatClampNeg))) : WW p l e R s m args below meth c Q dC dI cA A nL kc ks al sh pc lv (.int n :: .int dp :: .ref q1 :: .int sp :: .ref q0 :: rest) σ := fun H locs ls hP hD hS hl => va_copyl (ty := .long) C.1 C.2.1 (C.2.2.1.trans hl.1.symm) C.2.2.2.1 (C.2.2.2.2.1 _ hlk) (C.2.2.2.2.1 _ hnat) (C.2.2.2.2.1 _ hstat) (C.2.2.2.2.1 _ hini) C.2.2.2.2.2.1 hP hD hS q0 q1 1 1 (pic_get hs0) (pic_get hs1) rfl rfl rfl h1 h2 h3 h4 h5 (fun _ _ => rfl) hR.1 (by rw [cv_sum]; exact hR.2) hd (fun H1 locs1 hP1 hD1 hS1 => by
  rw [pic_set hs1 (oth_Lf σ q1 (va_cpy (σ.2 q0) (σ.2 q1) sp.toNatClampNeg dp.toNatClampNeg n.toNatClampNeg)) (by simp [cE, sLf])] at hP1 hD1
  exact kk H1 locs1 ls hP1 hD1 hS1 hl)
theorem ww_iret (C : Fx p s m args c cc nL own dC dI cA A al) (hr : meth.sig.returnType = some .int) (hlocks : meth.locks = false) {v : Int32} {Qk : Int32 → St → Prop} (hq : Qk v σ) (hd : decode cc pc = .ok (.ireturn, 1)) : WW p l e R s m args below meth c (MQ below (va_Qi Qk (WPost dC dI cA al sh A) A) args s kc ks A) dC dI cA A nL kc ks al sh pc lv [.int v] σ := fun H locs ls hP hD hS hl => W.iret C.1 C.2.1 hr (fun t ht hW => ⟨⟨v, σ, rfl, hq, by rw [ht]; exact hP, hD⟩, hS.F ht⟩) hS.2.2 hd hlocks
theorem ww_lret (C : Fx p s m args c cc nL own dC dI cA A al) (hr : meth.sig.returnType = some .long) (hlocks : meth.locks = false) {v : Int64} {Qk : Int64 → St → Prop} (hq : Qk v σ) (hd : decode cc pc = .ok (.lreturn, 1)) : WW p l e R s m args below meth c (MQ below (va_Ql Qk (WPost dC dI cA al sh A) A) args s kc ks A) dC dI cA A nL kc ks al sh pc lv [.long v] σ := fun H locs ls hP hD hS hl => W.lret C.1 C.2.1 hr (fun t ht hW => ⟨⟨v, σ, rfl, hq, by rw [ht]; exact hP, hD⟩, hS.F ht⟩) hS.2.2 hd hlocks
theorem ww_zret (C : Fx p s m args c cc nL own dC dI cA A al) (hr : meth.sig.returnType = some .boolean) (hlocks : meth.locks = false) {v : Int32} {Qk : Int32 → St → Prop} (hv : narrow .boolean (.int v) = .int v) (hq : Qk v σ) (hd : decode cc pc = .ok (.ireturn, 1)) : WW p l e R s m args below meth c (MQ below (va_Qi Qk (WPost dC dI cA al sh A) A) args s kc ks A) dC dI cA A nL kc ks al sh pc lv [.int v] σ := fun H locs ls hP hD hS hl => W.zret C.1 C.2.1 hr hv (fun t ht hW => ⟨⟨v, σ, rfl, hq, by rw [ht]; exact hP, hD⟩, hS.F ht⟩) hS.2.2 hd hlocks
theorem ww_vret (C : Fx p s m args c cc nL own dC dI cA A al) (hr : meth.sig.returnType = none) (hlocks : meth.locks = false) {Qk : St → Prop} (hq : Qk σ) (hd : decode cc pc = .ok (.return_, 1)) : WW p l e R s m args below meth c (MQ below (va_Qv Qk (WPost dC dI cA al sh A) A) args s kc ks A) dC dI cA A nL kc ks al sh pc lv [] σ := fun H locs ls hP hD hS hl => W.vret C.1 C.2.1 hr (fun t ht hW => ⟨⟨σ, rfl, hq, by rw [ht]; exact hP, hD⟩, hS.F ht⟩) hS.2.2 hd hlocks
theorem ww_met {y : MethodName} {bytes : ByteArray} {maxL : Nat} {ret : Option FieldType} {rm : Room} {As : List Value} {Qc : (Nat → Prop) → Array Value → State → Outcome → State → Prop} (hy : plainName y.cls = true) (hlen : (lg_sl (As.map (cv al))).length ≤ maxL)
    (body : ∀ (p : Program) (e : Env) (s : State) (m : MethodId) (args : Array Value) (below : List Frame) (meth : Method) (c : Code) (A : Nat → Prop), Fx p s m args c bytes maxL y.cls dC dI cA A al → meth.sig.returnType = ret → meth.locks = false → WW p l e rm s m args below meth c (MQ below (Qc A) args s 0 0 A) dC dI cA A maxL 0 0 al sh 0 (lv_args 0 As) [] σ) :
    ∀ sz, Met l y (wd y bytes maxL ret) rm (va_Pc (As.map (cv al)) (WPre dC dI cA al sh σ sz)) (Qc (AW al sh sz)) 0 0 (AW al sh sz) := by
  intro sz
  refine Met.ofW (cc := bytes) (maxL := maxL) (ret := ret) hy rfl ?_
  intro p e s m args below meth c s₁ B hml hv
  obtain ⟨rfl, hsz, hP, hK, hD0, hN, hZ⟩ := hv
  subst hsz
  have hD : va_D (AW al sh s.heap.size) (pic cA al sh σ) := by
    refine ⟨hD0.1, fun k q hk => ?_⟩
    rw [pI_get] at hk
    cases hf : sh[k]? with
    | none => rw [hf] at hk; cases hk
    | some d => rw [hf] at hk; cases hk; exact Or.inl ⟨k, (List.getElem?_eq_some_iff.mp hf).1, by simp⟩
  have hts := atoms_spec (ws := wd y bytes maxL ret) B.pre
  have hl := lv_entry (As.map (cv al)) (n := maxL) hlen
  rw [lg_entry_eq]
  rw [lv_args_map] at hl
  exact body p e s m _ below meth c (AW al sh s.heap.size) ⟨B.exec, B.bytes, hml, findClass_of_methodNamed B.named, fun w hw => hts w (List.mem_cons_of_mem _ hw), hK, hN, hZ, fun q h => Or.inr h⟩ B.returns B.notSynchronized s.heap [] _ hP hD va_S.rf hl
end WWR
end
