set_option maxRecDepth 100000 in
set_option maxHeartbeats 4000000 in
theorem c_X1_stateOf {l : Launch} {dC : Nat → ClassId} {dI : Nat → Nat → Nat} {cA : Nat → ClassId} {al : Nat → Nat} {sh : List Kd} {σ : St} {a0 : Int32} {Q : Int32 → St → Prop} (h : m_X1_stateOf σ a0 Q) : ∀ sz, Met l yX1_stateOf (wd yX1_stateOf cX1_stateOf 1 (some .int)) (RM 0) (va_Pc ([.int a0].map (cv al)) (WPre dC dI cA al sh σ sz)) (va_Qi Q (WPost dC dI cA al sh (AW al sh sz)) (AW al sh sz)) 0 0 (AW al sh sz) := by
  refine ww_met (Qc := fun A => va_Qi Q (WPost dC dI cA al sh A) A) (by decide +kernel) (Nat.le_of_ble_eq_true rfl) (fun p e s m args below meth c A C hr hlk => ?_)
  show WW p l e (RM 0) s m args below meth c (MQ below (va_Qi Q (WPost dC dI cA al sh A) A) args s 0 0 A) dC dI cA A 1 0 0 al sh 0 [(0, .int a0)] [] σ
  unfold m_X1_stateOf at h
  refine ww_iload_n C 0 rfl dX1_stateOf_0 ?_
  refine ww_iconst (v := 4) C dX1_stateOf_1 (by decide) ?_
  refine ww_ishr C dX1_stateOf_2 ?_
  exact ww_iret C hr hlk h dX1_stateOf_3
set_option maxRecDepth 100000 in
set_option maxHeartbeats 4000000 in
theorem c_X1_candidatesOf {l : Launch} {dC : Nat → ClassId} {dI : Nat → Nat → Nat} {cA : Nat → ClassId} {al : Nat → Nat} {sh : List Kd} {σ : St} {a0 : Int32} {Q : Int32 → St → Prop} (h : m_X1_candidatesOf σ a0 Q) : ∀ sz, Met l yX1_candidatesOf (wd yX1_candidatesOf cX1_candidatesOf 1 (some .int)) (RM 1) (va_Pc ([.int a0].map (cv al)) (WPre dC dI cA al sh σ sz)) (va_Qi Q (WPost dC dI cA al sh (AW al sh sz)) (AW al sh sz)) 0 0 (AW al sh sz) := by
  refine ww_met (Qc := fun A => va_Qi Q (WPost dC dI cA al sh A) A) (by decide +kernel) (Nat.le_of_ble_eq_true rfl) (fun p e s m args below meth c A C hr hlk => ?_)
  show WW p l e (RM 1) s m args below meth c (MQ below (va_Qi Q (WPost dC dI cA al sh A) A) args s 0 0 A) dC dI cA A 1 0 0 al sh 0 [(0, .int a0)] [] σ
  unfold m_X1_candidatesOf at h
  refine ww_iload_n C 0 rfl dX1_candidatesOf_0 ?_
  refine ww_si (n := 1) (As := [.int a0]) (rest := []) C (c_X1_stateOf h) nq_451 nq_452 nq_438 nq_453 (by decide +kernel) rfl rfl ⟨Nat.le_of_ble_eq_true rfl, Nat.le_of_ble_eq_true rfl, Nat.le_of_ble_eq_true rfl, Nat.le_of_ble_eq_true rfl⟩ (Nat.le_of_ble_eq_true rfl) dX1_candidatesOf_1 (fun r1 σ1 h => ?_)
  refine ww_iconst (v := 2) C dX1_candidatesOf_4 (by decide) ?_
  refine ww_icmp_lt (tgt := 15) C dX1_candidatesOf_5 (by decide) (fun hc => ?_) (fun hc => ?_)
  · have h := h.1 hc
    refine ww_bipush (v := 15) C dX1_candidatesOf_15 (by decide) ?_
    exact ww_iret C hr hlk h dX1_candidatesOf_17
  · have h := h.2 hc
    refine ww_iload_n C 0 rfl dX1_candidatesOf_8 ?_
    refine ww_bipush (v := 15) C dX1_candidatesOf_9 (by decide) ?_
    refine ww_iand C dX1_candidatesOf_11 ?_
    refine ww_goto (tgt := 17) C dX1_candidatesOf_12 (by decide) ?_
    exact ww_iret C hr hlk h dX1_candidatesOf_17
set_option maxRecDepth 100000 in
set_option maxHeartbeats 4000000 in
theorem c_X1_ownerOf {l : Launch} {dC : Nat → ClassId} {dI : Nat → Nat → Nat} {cA : Nat → ClassId} {al : Nat → Nat} {sh : List Kd} {σ : St} {a0 : Int32} {Q : Int32 → St → Prop} (h : m_X1_ownerOf σ a0 Q) : ∀ sz, Met l yX1_ownerOf (wd yX1_ownerOf cX1_ownerOf 1 (some .int)) (RM 1) (va_Pc ([.int a0].map (cv al)) (WPre dC dI cA al sh σ sz)) (va_Qi Q (WPost dC dI cA al sh (AW al sh sz)) (AW al sh sz)) 0 0 (AW al sh sz) := by
  refine ww_met (Qc := fun A => va_Qi Q (WPost dC dI cA al sh A) A) (by decide +kernel) (Nat.le_of_ble_eq_true rfl) (fun p e s m args below meth c A C hr hlk => ?_)
  show WW p l e (RM 1) s m args below meth c (MQ below (va_Qi Q (WPost dC dI cA al sh A) A) args s 0 0 A) dC dI cA A 1 0 0 al sh 0 [(0, .int a0)] [] σ
  unfold m_X1_ownerOf at h
  refine ww_iload_n C 0 rfl dX1_ownerOf_0 ?_
  refine ww_si (n := 1) (As := [.int a0]) (rest := []) C (c_X1_stateOf h) nq_451 nq_452 nq_438 nq_453 (by decide +kernel) rfl rfl ⟨Nat.le_of_ble_eq_true rfl, Nat.le_of_ble_eq_true rfl, Nat.le_of_ble_eq_true rfl, Nat.le_of_ble_eq_true rfl⟩ (Nat.le_of_ble_eq_true rfl) dX1_ownerOf_1 (fun r1 σ1 h => ?_)
  refine ww_iconst (v := 1) C dX1_ownerOf_4 (by decide) ?_
  refine ww_icmp_ne (tgt := 14) C dX1_ownerOf_5 (by decide) (fun hc => ?_) (fun hc => ?_)
  · have h := h.1 hc
    refine ww_bipush (v := -9) C dX1_ownerOf_14 (by decide) ?_
    exact ww_iret C hr hlk h dX1_ownerOf_16
  · have h := h.2 hc
    refine ww_iload_n C 0 rfl dX1_ownerOf_8 ?_
    refine ww_iconst (v := 3) C dX1_ownerOf_9 (by decide) ?_
    refine ww_iand C dX1_ownerOf_10 ?_
    refine ww_goto (tgt := 16) C dX1_ownerOf_11 (by decide) ?_
    exact ww_iret C hr hlk h dX1_ownerOf_16
set_option maxRecDepth 100000 in
set_option maxHeartbeats 4000000 in
theorem c_X4_threadAt {l : Launch} {dC : Nat → ClassId} {dI : Nat → Nat → Nat} {cA : Nat → ClassId} {al : Nat → Nat} {sh : List Kd} {b0 : Nat} (hb0 : isRow sh b0) {σ : St} {a1 : Int32} {Q : Int32 → St → Prop} (h : m_X4_threadAt b0 σ a1 Q) : ∀ sz, Met l yX4_threadAt (wd yX4_threadAt cX4_threadAt 2 (some .int)) (RM 0) (va_Pc ([.ref b0, .int a1].map (cv al)) (WPre dC dI cA al sh σ sz)) (va_Qi Q (WPost dC dI cA al sh (AW al sh sz)) (AW al sh sz)) 0 0 (AW al sh sz) := by
  refine ww_met (Qc := fun A => va_Qi Q (WPost dC dI cA al sh A) A) (by decide +kernel) (Nat.le_of_ble_eq_true rfl) (fun p e s m args below meth c A C hr hlk => ?_)
  show WW p l e (RM 0) s m args below meth c (MQ below (va_Qi Q (WPost dC dI cA al sh A) A) args s 0 0 A) dC dI cA A 2 0 0 al sh 0 [(0, .ref b0), (1, .int a1)] [] σ
  unfold m_X4_threadAt at h
  refine ww_aload_n C 0 rfl dX4_threadAt_0 ?_
  refine ww_getR C (row_o hb0) rfl inG4 1 (by decide) nq_52 rfl dX4_threadAt_1 ?_
  refine ww_iload_n C 1 rfl dX4_threadAt_4 ?_
  refine ww_iald C (row_1 hb0) h.1 dX4_threadAt_5 ?_
  have h := h.2
  refine ww_iconst (v := 2) C dX4_threadAt_6 (by decide) ?_
  refine ww_ishr C dX4_threadAt_7 ?_
  refine ww_iconst (v := 3) C dX4_threadAt_8 (by decide) ?_
  refine ww_iand C dX4_threadAt_9 ?_
  exact ww_iret C hr hlk h dX4_threadAt_10
set_option maxRecDepth 100000 in
set_option maxHeartbeats 4000000 in
theorem c_X4_writesAt {l : Launch} {dC : Nat → ClassId} {dI : Nat → Nat → Nat} {cA : Nat → ClassId} {al : Nat → Nat} {sh : List Kd} {b0 : Nat} (hb0 : isRow sh b0) {σ : St} {a1 : Int32} {Q : Int32 → St → Prop} (h : m_X4_writesAt b0 σ a1 Q) : ∀ sz, Met l yX4_writesAt (wd yX4_writesAt cX4_writesAt 2 (some .boolean)) (RM 0) (va_Pc ([.ref b0, .int a1].map (cv al)) (WPre dC dI cA al sh σ sz)) (va_Qi Q (WPost dC dI cA al sh (AW al sh sz)) (AW al sh sz)) 0 0 (AW al sh sz) := by
  refine ww_met (Qc := fun A => va_Qi Q (WPost dC dI cA al sh A) A) (by decide +kernel) (Nat.le_of_ble_eq_true rfl) (fun p e s m args below meth c A C hr hlk => ?_)
  show WW p l e (RM 0) s m args below meth c (MQ below (va_Qi Q (WPost dC dI cA al sh A) A) args s 0 0 A) dC dI cA A 2 0 0 al sh 0 [(0, .ref b0), (1, .int a1)] [] σ
  unfold m_X4_writesAt at h
  refine ww_aload_n C 0 rfl dX4_writesAt_0 ?_
  refine ww_getR C (row_o hb0) rfl inG4 1 (by decide) nq_52 rfl dX4_writesAt_1 ?_
  refine ww_iload_n C 1 rfl dX4_writesAt_4 ?_
  refine ww_iald C (row_1 hb0) h.1 dX4_writesAt_5 ?_
  have h := h.2
  refine ww_iconst (v := 4) C dX4_writesAt_6 (by decide) ?_
  refine ww_ishr C dX4_writesAt_7 ?_
  refine ww_bipush (v := 119) C dX4_writesAt_8 (by decide) ?_
  refine ww_icmp_ne (tgt := 17) C dX4_writesAt_10 (by decide) (fun hc => ?_) (fun hc => ?_)
  · have h := h.1 hc
    refine ww_iconst (v := 0) C dX4_writesAt_17 (by decide) ?_
    exact ww_zret C hr hlk (by decide) h dX4_writesAt_18
  · have h := h.2 hc
    refine ww_iconst (v := 1) C dX4_writesAt_13 (by decide) ?_
    refine ww_goto (tgt := 18) C dX4_writesAt_14 (by decide) ?_
    exact ww_zret C hr hlk (by decide) h dX4_writesAt_18
set_option maxRecDepth 100000 in
set_option maxHeartbeats 4000000 in
theorem w_X1_touch_J76 {p : Program} {l : Launch} {e : Env} {s : State} {m : MethodId} {args : Array Value} {below : List Frame} {meth : Method} {c : Code} {dC : Nat → ClassId} {dI : Nat → Nat → Nat} {cA : Nat → ClassId} {A : Nat → Prop} {al : Nat → Nat} {sh : List Kd} (C : Fx p s m args c cX1_touch 8 yX1_touch.cls dC dI cA A al) (hr : meth.sig.returnType = some .int) (hlk : meth.locks = false) {b1 : Nat} (hb1 : isRow sh b1) {a0 : Int32} {a2 : Int32} {a3 : Int32} {Q : Int32 → St → Prop} {σ : St} {x6 : Int32} {t0 : Int32} (h : m_X1_touch_J76 b1 a0 a2 a3 Q σ x6 t0) : WW p l e (RM 1) s m args below meth c (MQ below (va_Qi Q (WPost dC dI cA al sh A) A) args s 0 0 A) dC dI cA A 8 0 0 al sh 76 [(1, .ref b1), (2, .int a2), (3, .int a3), (6, .int x6)] [.int t0] σ := by
  unfold m_X1_touch_J76 at h
  refine ww_istore (lv' := [(7, .int t0), (1, .ref b1), (2, .int a2), (3, .int a3), (6, .int x6)]) C dX1_touch_76 (by decide) rfl ?_
  refine ww_iload C 0 rfl dX1_touch_78 ?_
  refine ww_iconst (v := 4) C dX1_touch_80 (by decide) ?_
  refine ww_ishl C dX1_touch_81 ?_
  refine ww_iload C 4 rfl dX1_touch_82 ?_
  refine ww_aload_n C 1 rfl dX1_touch_84 ?_
  refine ww_getRN C (row_o hb1) rfl inG4 4 (by decide) (List.mem_of_getElem? (i := 14) rfl) rfl dX1_touch_85 ?_
  refine ww_iload_n C 2 rfl dX1_touch_88 ?_
  refine ww_iald C (row_4 hb1) h.1 dX1_touch_89 ?_
  have h := h.2
  refine ww_iand C dX1_touch_90 ?_
  refine ww_iload_n C 3 rfl dX1_touch_91 ?_
  refine ww_iand C dX1_touch_92 ?_
  refine ww_ior C dX1_touch_93 ?_
  exact ww_iret C hr hlk h dX1_touch_94
set_option maxRecDepth 100000 in
set_option maxHeartbeats 4000000 in
theorem w_X1_touch_J71 {p : Program} {l : Launch} {e : Env} {s : State} {m : MethodId} {args : Array Value} {below : List Frame} {meth : Method} {c : Code} {dC : Nat → ClassId} {dI : Nat → Nat → Nat} {cA : Nat → ClassId} {A : Nat → Prop} {al : Nat → Nat} {sh : List Kd} (C : Fx p s m args c cX1_touch 8 yX1_touch.cls dC dI cA A al) (hr : meth.sig.returnType = some .int) (hlk : meth.locks = false) {b1 : Nat} (hb1 : isRow sh b1) {a0 : Int32} {a2 : Int32} {a3 : Int32} {Q : Int32 → St → Prop} {σ : St} {x6 : Int32} (h : m_X1_touch_J71 b1 a0 a2 a3 Q σ x6) : WW p l e (RM 1) s m args below meth c (MQ below (va_Qi Q (WPost dC dI cA al sh A) A) args s 0 0 A) dC dI cA A 8 0 0 al sh 71 [(1, .ref b1), (2, .int a2), (3, .int a3), (6, .int x6)] [] σ := by
  unfold m_X1_touch_J71 at h
  refine ww_iconst (v := 3) C dX1_touch_71 (by decide) ?_
  refine ww_goto (tgt := 76) C dX1_touch_72 (by decide) ?_
  exact w_X1_touch_J76 (Q := Q) (a0 := a0) (a2 := a2) (a3 := a3) C hr hlk hb1 h
set_option maxRecDepth 100000 in
set_option maxHeartbeats 4000000 in
theorem w_X1_touch_J55 {p : Program} {l : Launch} {e : Env} {s : State} {m : MethodId} {args : Array Value} {below : List Frame} {meth : Method} {c : Code} {dC : Nat → ClassId} {dI : Nat → Nat → Nat} {cA : Nat → ClassId} {A : Nat → Prop} {al : Nat → Nat} {sh : List Kd} (C : Fx p s m args c cX1_touch 8 yX1_touch.cls dC dI cA A al) (hr : meth.sig.returnType = some .int) (hlk : meth.locks = false) {b1 : Nat} (hb1 : isRow sh b1) {a0 : Int32} {a2 : Int32} {a3 : Int32} {Q : Int32 → St → Prop} {σ : St} {x4 : Int32} {t0 : Int32} (h : m_X1_touch_J55 b1 a0 a2 a3 Q σ x4 t0) : WW p l e (RM 1) s m args below meth c (MQ below (va_Qi Q (WPost dC dI cA al sh A) A) args s 0 0 A) dC dI cA A 8 0 0 al sh 55 [(1, .ref b1), (2, .int a2), (3, .int a3), (4, .int x4)] [.int t0] σ := by
  unfold m_X1_touch_J55 at h
  refine ww_istore (lv' := [(6, .int t0), (1, .ref b1), (2, .int a2), (3, .int a3), (4, .int x4)]) C dX1_touch_55 (by decide) rfl ?_
  refine ww_iload C 4 rfl dX1_touch_57 ?_
  refine ww_iconst (v := 3) C dX1_touch_59 (by decide) ?_
  refine ww_icmp_eq (tgt := 71) C dX1_touch_60 (by decide) (fun hc => ?_) (fun hc => ?_)
  · have h := h.1 hc
    refine ww_sub [1, 2, 3, 0] rfl ?_
    exact w_X1_touch_J71 (Q := Q) (a0 := a0) (a2 := a2) (a3 := a3) C hr hlk hb1 h
  · have h := h.2 hc
    refine ww_aload_n C 1 rfl dX1_touch_63 ?_
    refine ww_iload_n C 2 rfl dX1_touch_64 ?_
    refine ww_vi (n := 1) (As := [.int a2]) (rest := []) C (c_X4_writesAt hb1 h) (row_o hb1) rfl nq_455 nq_456 nq_457 nq_19 nq_458 (by decide +kernel) rfl rfl ⟨Nat.le_of_ble_eq_true rfl, Nat.le_of_ble_eq_true rfl, Nat.le_of_ble_eq_true rfl, Nat.le_of_ble_eq_true rfl⟩ (Nat.le_of_ble_eq_true rfl) dX1_touch_65 (fun r65 σ65 h => ?_)
    refine ww_if_eq (tgt := 75) C dX1_touch_68 (by decide) (fun hc => ?_) (fun hc => ?_)
    · have h := h.1 hc
      refine ww_iconst (v := 2) C dX1_touch_75 (by decide) ?_
      refine ww_sub [1, 2, 3, 0] rfl ?_
      exact w_X1_touch_J76 (Q := Q) (a0 := a0) (a2 := a2) (a3 := a3) C hr hlk hb1 h
    · have h := h.2 hc
      refine ww_sub [1, 2, 3, 0] rfl ?_
      exact w_X1_touch_J71 (Q := Q) (a0 := a0) (a2 := a2) (a3 := a3) C hr hlk hb1 h
set_option maxRecDepth 100000 in
set_option maxHeartbeats 4000000 in
theorem w_X1_touch_J40 {p : Program} {l : Launch} {e : Env} {s : State} {m : MethodId} {args : Array Value} {below : List Frame} {meth : Method} {c : Code} {dC : Nat → ClassId} {dI : Nat → Nat → Nat} {cA : Nat → ClassId} {A : Nat → Prop} {al : Nat → Nat} {sh : List Kd} (C : Fx p s m args c cX1_touch 8 yX1_touch.cls dC dI cA A al) (hr : meth.sig.returnType = some .int) (hlk : meth.locks = false) {b1 : Nat} (hb1 : isRow sh b1) {a0 : Int32} {a2 : Int32} {a3 : Int32} {Q : Int32 → St → Prop} {σ : St} {x4 : Int32} (h : m_X1_touch_J40 b1 a0 a2 a3 Q σ x4) : WW p l e (RM 1) s m args below meth c (MQ below (va_Qi Q (WPost dC dI cA al sh A) A) args s 0 0 A) dC dI cA A 8 0 0 al sh 40 [(0, .int a0), (1, .ref b1), (2, .int a2), (3, .int a3), (4, .int x4)] [] σ := by
  unfold m_X1_touch_J40 at h
  refine ww_iload C 4 rfl dX1_touch_40 ?_
  refine ww_iconst (v := 1) C dX1_touch_42 (by decide) ?_
  refine ww_icmp_ne (tgt := 51) C dX1_touch_43 (by decide) (fun hc => ?_) (fun hc => ?_)
  · have h := h.1 hc
    refine ww_iload_n C 0 rfl dX1_touch_51 ?_
    refine ww_bipush (v := 15) C dX1_touch_52 (by decide) ?_
    refine ww_iand C dX1_touch_54 ?_
    refine ww_sub [1, 2, 3, 4] rfl ?_
    exact w_X1_touch_J55 (Q := Q) (a0 := a0) (a2 := a2) (a3 := a3) C hr hlk hb1 h
  · have h := h.2 hc
    refine ww_bipush (v := 15) C dX1_touch_46 (by decide) ?_
    refine ww_goto (tgt := 55) C dX1_touch_48 (by decide) ?_
    refine ww_sub [1, 2, 3, 4] rfl ?_
    exact w_X1_touch_J55 (Q := Q) (a0 := a0) (a2 := a2) (a3 := a3) C hr hlk hb1 h
set_option maxRecDepth 100000 in
set_option maxHeartbeats 4000000 in
theorem c_X1_touch {l : Launch} {dC : Nat → ClassId} {dI : Nat → Nat → Nat} {cA : Nat → ClassId} {al : Nat → Nat} {sh : List Kd} {b1 : Nat} (hb1 : isRow sh b1) {σ : St} {a0 : Int32} {a2 : Int32} {a3 : Int32} {Q : Int32 → St → Prop} (h : m_X1_touch b1 σ a0 a2 a3 Q) : ∀ sz, Met l yX1_touch (wd yX1_touch cX1_touch 8 (some .int)) (RM 1) (va_Pc ([.int a0, .ref b1, .int a2, .int a3].map (cv al)) (WPre dC dI cA al sh σ sz)) (va_Qi Q (WPost dC dI cA al sh (AW al sh sz)) (AW al sh sz)) 0 0 (AW al sh sz) := by
  refine ww_met (Qc := fun A => va_Qi Q (WPost dC dI cA al sh A) A) (by decide +kernel) (Nat.le_of_ble_eq_true rfl) (fun p e s m args below meth c A C hr hlk => ?_)
  show WW p l e (RM 1) s m args below meth c (MQ below (va_Qi Q (WPost dC dI cA al sh A) A) args s 0 0 A) dC dI cA A 8 0 0 al sh 0 [(0, .int a0), (1, .ref b1), (2, .int a2), (3, .int a3)] [] σ
  unfold m_X1_touch at h
  refine ww_iload_n C 0 rfl dX1_touch_0 ?_
  refine ww_si (n := 1) (As := [.int a0]) (rest := []) C (c_X1_stateOf h) nq_451 nq_452 nq_438 nq_453 (by decide +kernel) rfl rfl ⟨Nat.le_of_ble_eq_true rfl, Nat.le_of_ble_eq_true rfl, Nat.le_of_ble_eq_true rfl, Nat.le_of_ble_eq_true rfl⟩ (Nat.le_of_ble_eq_true rfl) dX1_touch_1 (fun r1 σ1 h => ?_)
  refine ww_istore (lv' := [(4, .int r1), (0, .int a0), (1, .ref b1), (2, .int a2), (3, .int a3)]) C dX1_touch_4 (by decide) rfl ?_
  refine ww_aload_n C 2 rfl dX1_touch_6 ?_
  refine ww_iload_n C 3 rfl dX1_touch_7 ?_
  refine ww_vi (n := 1) (As := [.int a2]) (rest := []) C (c_X4_threadAt hb1 h) (row_o hb1) rfl nq_454 nq_304 nq_305 nq_19 nq_306 (by decide +kernel) rfl rfl ⟨Nat.le_of_ble_eq_true rfl, Nat.le_of_ble_eq_true rfl, Nat.le_of_ble_eq_true rfl, Nat.le_of_ble_eq_true rfl⟩ (Nat.le_of_ble_eq_true rfl) dX1_touch_8 (fun r8 σ8 h => ?_)
  refine ww_istore (lv' := [(5, .int r8), (4, .int r1), (0, .int a0), (1, .ref b1), (2, .int a2), (3, .int a3)]) C dX1_touch_11 (by decide) rfl ?_
  refine ww_iload C 1 rfl dX1_touch_13 ?_
  refine ww_if_ne (tgt := 24) C dX1_touch_15 (by decide) (fun hc => ?_) (fun hc => ?_)
  · have h := h.1 hc
    refine ww_iload C 1 rfl dX1_touch_24 ?_
    refine ww_iconst (v := 1) C dX1_touch_26 (by decide) ?_
    refine ww_icmp_ne (tgt := 40) C dX1_touch_27 (by decide) (fun hc => ?_) (fun hc => ?_)
    · have h := h.1 hc
      refine ww_sub [2, 3, 4, 5, 1] rfl ?_
      exact w_X1_touch_J40 (Q := Q) (a0 := a0) (a2 := a2) (a3 := a3) C hr hlk hb1 h
    · have h := h.2 hc
      refine ww_iload_n C 2 rfl dX1_touch_30 ?_
      refine ww_iconst (v := 3) C dX1_touch_31 (by decide) ?_
      refine ww_iand C dX1_touch_32 ?_
      refine ww_iload C 0 rfl dX1_touch_33 ?_
      refine ww_icmp_ne (tgt := 40) C dX1_touch_35 (by decide) (fun hc => ?_) (fun hc => ?_)
      · have h := h.1 hc
        refine ww_sub [2, 3, 4, 5, 1] rfl ?_
        exact w_X1_touch_J40 (Q := Q) (a0 := a0) (a2 := a2) (a3 := a3) C hr hlk hb1 h
      · have h := h.2 hc
        refine ww_iload_n C 2 rfl dX1_touch_38 ?_
        exact ww_iret C hr hlk h dX1_touch_39
  · have h := h.2 hc
    refine ww_bipush (v := 16) C dX1_touch_18 (by decide) ?_
    refine ww_iload C 0 rfl dX1_touch_20 ?_
    refine ww_ior C dX1_touch_22 ?_
    exact ww_iret C hr hlk h dX1_touch_23
set_option maxRecDepth 100000 in
set_option maxHeartbeats 4000000 in
theorem c_X4_isTouch {l : Launch} {dC : Nat → ClassId} {dI : Nat → Nat → Nat} {cA : Nat → ClassId} {al : Nat → Nat} {sh : List Kd} {b0 : Nat} (hb0 : isRow sh b0) {σ : St} {a1 : Int32} {Q : Int32 → St → Prop} (h : m_X4_isTouch b0 σ a1 Q) : ∀ sz, Met l yX4_isTouch (wd yX4_isTouch cX4_isTouch 3 (some .boolean)) (RM 0) (va_Pc ([.ref b0, .int a1].map (cv al)) (WPre dC dI cA al sh σ sz)) (va_Qi Q (WPost dC dI cA al sh (AW al sh sz)) (AW al sh sz)) 0 0 (AW al sh sz) := by
  refine ww_met (Qc := fun A => va_Qi Q (WPost dC dI cA al sh A) A) (by decide +kernel) (Nat.le_of_ble_eq_true rfl) (fun p e s m args below meth c A C hr hlk => ?_)
  show WW p l e (RM 0) s m args below meth c (MQ below (va_Qi Q (WPost dC dI cA al sh A) A) args s 0 0 A) dC dI cA A 3 0 0 al sh 0 [(0, .ref b0), (1, .int a1)] [] σ
  unfold m_X4_isTouch at h
  refine ww_aload_n C 0 rfl dX4_isTouch_0 ?_
  refine ww_getR C (row_o hb0) rfl inG4 1 (by decide) nq_52 rfl dX4_isTouch_1 ?_
  refine ww_iload_n C 1 rfl dX4_isTouch_4 ?_
  refine ww_iald C (row_1 hb0) h.1 dX4_isTouch_5 ?_
  have h := h.2
  refine ww_iconst (v := 4) C dX4_isTouch_6 (by decide) ?_
  refine ww_ishr C dX4_isTouch_7 ?_
  refine ww_nmI h (fun y8 h => ?_)
  refine ww_istore_n (lv' := [(2, .int y8), (0, .ref b0), (1, .int a1)]) C dX4_isTouch_8 rfl (by decide) rfl ?_
  refine ww_iload_n C 0 rfl dX4_isTouch_9 ?_
  refine ww_bipush (v := 114) C dX4_isTouch_10 (by decide) ?_
  refine ww_icmp_eq (tgt := 21) C dX4_isTouch_12 (by decide) (fun hc => ?_) (fun hc => ?_)
  · have h := h.1 hc
    refine ww_iconst (v := 1) C dX4_isTouch_21 (by decide) ?_
    refine ww_goto (tgt := 26) C dX4_isTouch_22 (by decide) ?_
    exact ww_zret C hr hlk (by decide) h dX4_isTouch_26
  · have h := h.2 hc
    refine ww_iload_n C 0 rfl dX4_isTouch_15 ?_
    refine ww_bipush (v := 119) C dX4_isTouch_16 (by decide) ?_
    refine ww_icmp_ne (tgt := 25) C dX4_isTouch_18 (by decide) (fun hc => ?_) (fun hc => ?_)
    · have h := h.1 hc
      refine ww_iconst (v := 0) C dX4_isTouch_25 (by decide) ?_
      exact ww_zret C hr hlk (by decide) h dX4_isTouch_26
    · have h := h.2 hc
      refine ww_iconst (v := 1) C dX4_isTouch_21 (by decide) ?_
      refine ww_goto (tgt := 26) C dX4_isTouch_22 (by decide) ?_
      exact ww_zret C hr hlk (by decide) h dX4_isTouch_26
set_option maxRecDepth 100000 in
set_option maxHeartbeats 4000000 in
theorem c_X4_touchesAt {l : Launch} {dC : Nat → ClassId} {dI : Nat → Nat → Nat} {cA : Nat → ClassId} {al : Nat → Nat} {sh : List Kd} {b0 : Nat} (hb0 : isRow sh b0) {σ : St} {a1 : Int32} {a2 : Int32} {Q : Int32 → St → Prop} (h : m_X4_touchesAt b0 σ a1 a2 Q) : ∀ sz, Met l yX4_touchesAt (wd yX4_touchesAt cX4_touchesAt 3 (some .boolean)) (RM 1) (va_Pc ([.ref b0, .int a1, .int a2].map (cv al)) (WPre dC dI cA al sh σ sz)) (va_Qi Q (WPost dC dI cA al sh (AW al sh sz)) (AW al sh sz)) 0 0 (AW al sh sz) := by
  refine ww_met (Qc := fun A => va_Qi Q (WPost dC dI cA al sh A) A) (by decide +kernel) (Nat.le_of_ble_eq_true rfl) (fun p e s m args below meth c A C hr hlk => ?_)
  show WW p l e (RM 1) s m args below meth c (MQ below (va_Qi Q (WPost dC dI cA al sh A) A) args s 0 0 A) dC dI cA A 3 0 0 al sh 0 [(0, .ref b0), (1, .int a1), (2, .int a2)] [] σ
  unfold m_X4_touchesAt at h
  refine ww_aload_n C 0 rfl dX4_touchesAt_0 ?_
  refine ww_iload_n C 1 rfl dX4_touchesAt_1 ?_
  refine ww_vi (n := 1) (As := [.int a1]) (rest := []) C (c_X4_isTouch hb0 h) (row_o hb0) rfl nq_444 nq_445 nq_446 nq_19 nq_447 (by decide +kernel) rfl rfl ⟨Nat.le_of_ble_eq_true rfl, Nat.le_of_ble_eq_true rfl, Nat.le_of_ble_eq_true rfl, Nat.le_of_ble_eq_true rfl⟩ (Nat.le_of_ble_eq_true rfl) dX4_touchesAt_2 (fun r2 σ2 h => ?_)
  refine ww_if_eq (tgt := 24) C dX4_touchesAt_5 (by decide) (fun hc => ?_) (fun hc => ?_)
  · have h := h.1 hc
    refine ww_iconst (v := 0) C dX4_touchesAt_24 (by decide) ?_
    exact ww_zret C hr hlk (by decide) h dX4_touchesAt_25
  · have h := h.2 hc
    refine ww_aload_n C 0 rfl dX4_touchesAt_8 ?_
    refine ww_getR C (row_o hb0) rfl inG4 1 (by decide) nq_52 rfl dX4_touchesAt_9 ?_
    refine ww_iload_n C 1 rfl dX4_touchesAt_12 ?_
    refine ww_iald C (row_1 hb0) h.1 dX4_touchesAt_13 ?_
    have h := h.2
    refine ww_iconst (v := 3) C dX4_touchesAt_14 (by decide) ?_
    refine ww_iand C dX4_touchesAt_15 ?_
    refine ww_iload_n C 2 rfl dX4_touchesAt_16 ?_
    refine ww_icmp_ne (tgt := 24) C dX4_touchesAt_17 (by decide) (fun hc => ?_) (fun hc => ?_)
    · have h := h.1 hc
      refine ww_iconst (v := 0) C dX4_touchesAt_24 (by decide) ?_
      exact ww_zret C hr hlk (by decide) h dX4_touchesAt_25
    · have h := h.2 hc
      refine ww_iconst (v := 1) C dX4_touchesAt_20 (by decide) ?_
      refine ww_goto (tgt := 25) C dX4_touchesAt_21 (by decide) ?_
      exact ww_zret C hr hlk (by decide) h dX4_touchesAt_25
set_option maxRecDepth 100000 in
set_option maxHeartbeats 4000000 in
theorem w_X1_watch_L6b {p : Program} {l : Launch} {e : Env} {s : State} {m : MethodId} {args : Array Value} {below : List Frame} {meth : Method} {c : Code} {dC : Nat → ClassId} {dI : Nat → Nat → Nat} {cA : Nat → ClassId} {A : Nat → Prop} {al : Nat → Nat} {sh : List Kd} (C : Fx p s m args c cX1_watch 7 yX1_watch.cls dC dI cA A al) (hr : meth.sig.returnType = some .int) (hlk : meth.locks = false) {b0 : Nat} (hb0 : isRow sh b0) {a1 : Int32} {a2 : Int32} {a3 : Int32} {a4 : Int32} {Q : Int32 → St → Prop} {K55 : St → Int32 → Prop} (hK55 : ∀ (σ : St) (x5 : Int32), K55 σ x5 → WW p l e (RM 2) s m args below meth c (MQ below (va_Qi Q (WPost dC dI cA al sh A) A) args s 0 0 A) dC dI cA A 7 0 0 al sh 55 [(5, .int x5)] [] σ) {Rc : St → Int32 → Int32 → Prop} (hRc : ∀ (σ : St) (x5 : Int32) (x6 : Int32), Rc σ x5 x6 → WW p l e (RM 2) s m args below meth c (MQ below (va_Qi Q (WPost dC dI cA al sh A) A) args s 0 0 A) dC dI cA A 7 0 0 al sh 6 [(0, .ref b0), (1, .int a1), (2, .int a2), (3, .int a3), (4, .int a4), (5, .int x5), (6, .int x6)] [] σ) {σ : St} {x5 : Int32} {x6 : Int32} (h : m_X1_watch_L6b b0 a1 a2 a3 a4 Q K55 Rc σ x5 x6) : WW p l e (RM 2) s m args below meth c (MQ below (va_Qi Q (WPost dC dI cA al sh A) A) args s 0 0 A) dC dI cA A 7 0 0 al sh 6 [(0, .ref b0), (1, .int a1), (2, .int a2), (3, .int a3), (4, .int a4), (5, .int x5), (6, .int x6)] [] σ := by
  unfold m_X1_watch_L6b at h
  refine ww_iload C 6 rfl dX1_watch_6 ?_
  refine ww_iload_n C 2 rfl dX1_watch_8 ?_
  refine ww_icmp_ge (tgt := 55) C dX1_watch_9 (by decide) (fun hc => ?_) (fun hc => ?_)
  · have h := h.1 hc
    refine ww_sub [5] rfl ?_
    exact hK55 _ _ h
  · have h := h.2 hc
    refine ww_iload C 6 rfl dX1_watch_12 ?_
    refine ww_aload_n C 0 rfl dX1_watch_14 ?_
    refine ww_getIN C (row_o hb0) rfl inG4 0 (by decide) (List.mem_of_getElem? (i := 15) rfl) rfl dX1_watch_15 ?_
    refine ww_icmp_ge (tgt := 55) C dX1_watch_18 (by decide) (fun hc => ?_) (fun hc => ?_)
    · have h := h.1 hc
      refine ww_sub [5] rfl ?_
      exact hK55 _ _ h
    · have h := h.2 hc
      refine ww_iload C 6 rfl dX1_watch_21 ?_
      refine ww_iload_n C 3 rfl dX1_watch_23 ?_
      refine ww_icmp_eq (tgt := 49) C dX1_watch_24 (by decide) (fun hc => ?_) (fun hc => ?_)
      · have h := h.1 hc
        refine ww_iinc (v := (x6 + 1)) (lv' := [(6, .int (x6 + 1)), (0, .ref b0), (1, .int a1), (2, .int a2), (3, .int a3), (4, .int a4), (5, .int x5)]) C 6 rfl dX1_watch_49 rfl (by decide) rfl ?_
        refine ww_goto (tgt := 6) C dX1_watch_52 (by decide) ?_
        refine ww_sub [1, 2, 3, 4, 5, 6, 0] rfl ?_
        exact hRc _ _ _ h
      · have h := h.2 hc
        refine ww_aload_n C 0 rfl dX1_watch_27 ?_
        refine ww_iload C 6 rfl dX1_watch_28 ?_
        refine ww_iload_n C 1 rfl dX1_watch_30 ?_
        refine ww_vi (n := 2) (As := [.int x6, .int a1]) (rest := []) C (c_X4_touchesAt hb0 h) (row_o hb0) rfl nq_440 nq_441 nq_442 nq_19 nq_443 (by decide +kernel) rfl rfl ⟨Nat.le_of_ble_eq_true rfl, Nat.le_of_ble_eq_true rfl, Nat.le_of_ble_eq_true rfl, Nat.le_of_ble_eq_true rfl⟩ (Nat.le_of_ble_eq_true rfl) dX1_watch_31 (fun r31 σ31 h => ?_)
        refine ww_if_eq (tgt := 49) C dX1_watch_34 (by decide) (fun hc => ?_) (fun hc => ?_)
        · have h := h.1 hc
          refine ww_iinc (v := (x6 + 1)) (lv' := [(6, .int (x6 + 1)), (0, .ref b0), (1, .int a1), (2, .int a2), (3, .int a3), (4, .int a4), (5, .int x5)]) C 6 rfl dX1_watch_49 rfl (by decide) rfl ?_
          refine ww_goto (tgt := 6) C dX1_watch_52 (by decide) ?_
          refine ww_sub [1, 2, 3, 4, 5, 6, 0] rfl ?_
          exact hRc _ _ _ h
        · have h := h.2 hc
          refine ww_iload C 5 rfl dX1_watch_37 ?_
          refine ww_aload_n C 0 rfl dX1_watch_39 ?_
          refine ww_iload C 6 rfl dX1_watch_40 ?_
          refine ww_iload C 4 rfl dX1_watch_42 ?_
          refine ww_si (n := 4) (As := [.int x5, .ref b0, .int x6, .int a4]) (rest := []) C (c_X1_touch hb0 h) nq_448 nq_449 nq_438 nq_450 (by decide +kernel) rfl rfl ⟨Nat.le_of_ble_eq_true rfl, Nat.le_of_ble_eq_true rfl, Nat.le_of_ble_eq_true rfl, Nat.le_of_ble_eq_true rfl⟩ (Nat.le_of_ble_eq_true rfl) dX1_watch_44 (fun r44 σ44 h => ?_)
          refine ww_istore (lv' := [(5, .int r44), (0, .ref b0), (1, .int a1), (2, .int a2), (3, .int a3), (4, .int a4), (6, .int x6)]) C dX1_watch_47 (by decide) rfl ?_
          refine ww_iinc (v := (x6 + 1)) (lv' := [(6, .int (x6 + 1)), (5, .int r44), (0, .ref b0), (1, .int a1), (2, .int a2), (3, .int a3), (4, .int a4)]) C 6 rfl dX1_watch_49 rfl (by decide) rfl ?_
          refine ww_goto (tgt := 6) C dX1_watch_52 (by decide) ?_
          refine ww_sub [2, 3, 4, 5, 6, 1, 0] rfl ?_
          exact hRc _ _ _ h
set_option maxRecDepth 100000 in
set_option maxHeartbeats 4000000 in
theorem w_X1_watch_L6 {p : Program} {l : Launch} {e : Env} {s : State} {m : MethodId} {args : Array Value} {below : List Frame} {meth : Method} {c : Code} {dC : Nat → ClassId} {dI : Nat → Nat → Nat} {cA : Nat → ClassId} {A : Nat → Prop} {al : Nat → Nat} {sh : List Kd} (C : Fx p s m args c cX1_watch 7 yX1_watch.cls dC dI cA A al) (hr : meth.sig.returnType = some .int) (hlk : meth.locks = false) {b0 : Nat} (hb0 : isRow sh b0) {a1 : Int32} {a2 : Int32} {a3 : Int32} {a4 : Int32} {Q : Int32 → St → Prop} {K55 : St → Int32 → Prop} (hK55 : ∀ (σ : St) (x5 : Int32), K55 σ x5 → WW p l e (RM 2) s m args below meth c (MQ below (va_Qi Q (WPost dC dI cA al sh A) A) args s 0 0 A) dC dI cA A 7 0 0 al sh 55 [(5, .int x5)] [] σ) : ∀ (f : Nat) (σ : St) (x5 : Int32) (x6 : Int32), m_X1_watch_L6 b0 a1 a2 a3 a4 Q K55 f σ x5 x6 → WW p l e (RM 2) s m args below meth c (MQ below (va_Qi Q (WPost dC dI cA al sh A) A) args s 0 0 A) dC dI cA A 7 0 0 al sh 6 [(0, .ref b0), (1, .int a1), (2, .int a2), (3, .int a3), (4, .int a4), (5, .int x5), (6, .int x6)] [] σ := by
  intro f
  induction f with
  | zero => intro σ x5 x6 h; exact False.elim h
  | succ f ih => intro σ x5 x6 h; exact w_X1_watch_L6b (Q := Q) (a1 := a1) (a2 := a2) (a3 := a3) (a4 := a4) C hr hlk hb0 hK55 ih h
set_option maxRecDepth 100000 in
set_option maxHeartbeats 4000000 in
theorem w_X1_watch_J55 {p : Program} {l : Launch} {e : Env} {s : State} {m : MethodId} {args : Array Value} {below : List Frame} {meth : Method} {c : Code} {dC : Nat → ClassId} {dI : Nat → Nat → Nat} {cA : Nat → ClassId} {A : Nat → Prop} {al : Nat → Nat} {sh : List Kd} (C : Fx p s m args c cX1_watch 7 yX1_watch.cls dC dI cA A al) (hr : meth.sig.returnType = some .int) (hlk : meth.locks = false) {b0 : Nat} (hb0 : isRow sh b0) {a1 : Int32} {a2 : Int32} {a3 : Int32} {a4 : Int32} {Q : Int32 → St → Prop} {σ : St} {x5 : Int32} (h : m_X1_watch_J55 b0 a1 a2 a3 a4 Q σ x5) : WW p l e (RM 2) s m args below meth c (MQ below (va_Qi Q (WPost dC dI cA al sh A) A) args s 0 0 A) dC dI cA A 7 0 0 al sh 55 [(5, .int x5)] [] σ := by
  unfold m_X1_watch_J55 at h
  refine ww_iload C 0 rfl dX1_watch_55 ?_
  exact ww_iret C hr hlk h dX1_watch_57
set_option maxRecDepth 100000 in
set_option maxHeartbeats 4000000 in
theorem c_X1_watch {l : Launch} {dC : Nat → ClassId} {dI : Nat → Nat → Nat} {cA : Nat → ClassId} {al : Nat → Nat} {sh : List Kd} {b0 : Nat} (hb0 : isRow sh b0) {σ : St} {a1 : Int32} {a2 : Int32} {a3 : Int32} {a4 : Int32} {Q : Int32 → St → Prop} (h : m_X1_watch b0 σ a1 a2 a3 a4 Q) : ∀ sz, Met l yX1_watch (wd yX1_watch cX1_watch 7 (some .int)) (RM 2) (va_Pc ([.ref b0, .int a1, .int a2, .int a3, .int a4].map (cv al)) (WPre dC dI cA al sh σ sz)) (va_Qi Q (WPost dC dI cA al sh (AW al sh sz)) (AW al sh sz)) 0 0 (AW al sh sz) := by
  refine ww_met (Qc := fun A => va_Qi Q (WPost dC dI cA al sh A) A) (by decide +kernel) (Nat.le_of_ble_eq_true rfl) (fun p e s m args below meth c A C hr hlk => ?_)
  show WW p l e (RM 2) s m args below meth c (MQ below (va_Qi Q (WPost dC dI cA al sh A) A) args s 0 0 A) dC dI cA A 7 0 0 al sh 0 [(0, .ref b0), (1, .int a1), (2, .int a2), (3, .int a3), (4, .int a4)] [] σ
  unfold m_X1_watch at h
  refine ww_iconst (v := 0) C dX1_watch_0 (by decide) ?_
  refine ww_istore (lv' := [(5, .int 0), (0, .ref b0), (1, .int a1), (2, .int a2), (3, .int a3), (4, .int a4)]) C dX1_watch_1 (by decide) rfl ?_
  refine ww_iconst (v := 0) C dX1_watch_3 (by decide) ?_
  refine ww_istore (lv' := [(6, .int 0), (5, .int 0), (0, .ref b0), (1, .int a1), (2, .int a2), (3, .int a3), (4, .int a4)]) C dX1_watch_4 (by decide) rfl ?_
  refine ww_sub [2, 3, 4, 5, 6, 1, 0] rfl ?_
  obtain ⟨f, h⟩ := h
  exact w_X1_watch_L6 (Q := Q) (a1 := a1) (a2 := a2) (a3 := a3) (a4 := a4) C hr hlk hb0 (fun σ x5 h => by exact w_X1_watch_J55 (Q := Q) (a1 := a1) (a2 := a2) (a3 := a3) (a4 := a4) C hr hlk hb0 h) f _ _ _ h
set_option maxRecDepth 100000 in
set_option maxHeartbeats 4000000 in
theorem w_X1_flaggedBy_L5b {p : Program} {l : Launch} {e : Env} {s : State} {m : MethodId} {args : Array Value} {below : List Frame} {meth : Method} {c : Code} {dC : Nat → ClassId} {dI : Nat → Nat → Nat} {cA : Nat → ClassId} {A : Nat → Prop} {al : Nat → Nat} {sh : List Kd} (C : Fx p s m args c cX1_flaggedBy 5 yX1_flaggedBy.cls dC dI cA A al) (hr : meth.sig.returnType = some .int) (hlk : meth.locks = false) {b0 : Nat} (hb0 : isRow sh b0) {a1 : Int32} {a2 : Int32} {Q : Int32 → St → Prop} {K46 : St → Int32 → Prop} (hK46 : ∀ (σ : St) (x4 : Int32), K46 σ x4 → WW p l e (RM 2) s m args below meth c (MQ below (va_Qi Q (WPost dC dI cA al sh A) A) args s 0 0 A) dC dI cA A 5 0 0 al sh 46 [(4, .int x4)] [] σ) {K55 : St → Prop} (hK55 : ∀ (σ : St), K55 σ → WW p l e (RM 2) s m args below meth c (MQ below (va_Qi Q (WPost dC dI cA al sh A) A) args s 0 0 A) dC dI cA A 5 0 0 al sh 55 [] [] σ) {Rc : St → Int32 → Int32 → Prop} (hRc : ∀ (σ : St) (x3 : Int32) (x4 : Int32), Rc σ x3 x4 → WW p l e (RM 2) s m args below meth c (MQ below (va_Qi Q (WPost dC dI cA al sh A) A) args s 0 0 A) dC dI cA A 5 0 0 al sh 5 [(0, .ref b0), (1, .int a1), (2, .int a2), (3, .int x3), (4, .int x4)] [] σ) {σ : St} {x3 : Int32} {x4 : Int32} (h : m_X1_flaggedBy_L5b b0 a1 a2 Q K46 K55 Rc σ x3 x4) : WW p l e (RM 2) s m args below meth c (MQ below (va_Qi Q (WPost dC dI cA al sh A) A) args s 0 0 A) dC dI cA A 5 0 0 al sh 5 [(0, .ref b0), (1, .int a1), (2, .int a2), (3, .int x3), (4, .int x4)] [] σ := by
  unfold m_X1_flaggedBy_L5b at h
  refine ww_iload C 4 rfl dX1_flaggedBy_5 ?_
  refine ww_iload_n C 2 rfl dX1_flaggedBy_7 ?_
  refine ww_icmp_ge (tgt := 55) C dX1_flaggedBy_8 (by decide) (fun hc => ?_) (fun hc => ?_)
  · have h := h.1 hc
    refine ww_sub [] rfl ?_
    exact hK55 _ h
  · have h := h.2 hc
    refine ww_iload C 4 rfl dX1_flaggedBy_11 ?_
    refine ww_aload_n C 0 rfl dX1_flaggedBy_13 ?_
    refine ww_getIN C (row_o hb0) rfl inG4 0 (by decide) (List.mem_of_getElem? (i := 15) rfl) rfl dX1_flaggedBy_14 ?_
    refine ww_icmp_ge (tgt := 55) C dX1_flaggedBy_17 (by decide) (fun hc => ?_) (fun hc => ?_)
    · have h := h.1 hc
      refine ww_sub [] rfl ?_
      exact hK55 _ h
    · have h := h.2 hc
      refine ww_aload_n C 0 rfl dX1_flaggedBy_20 ?_
      refine ww_iload C 4 rfl dX1_flaggedBy_21 ?_
      refine ww_iload_n C 1 rfl dX1_flaggedBy_23 ?_
      refine ww_vi (n := 2) (As := [.int x4, .int a1]) (rest := []) C (c_X4_touchesAt hb0 h) (row_o hb0) rfl nq_440 nq_441 nq_442 nq_19 nq_443 (by decide +kernel) rfl rfl ⟨Nat.le_of_ble_eq_true rfl, Nat.le_of_ble_eq_true rfl, Nat.le_of_ble_eq_true rfl, Nat.le_of_ble_eq_true rfl⟩ (Nat.le_of_ble_eq_true rfl) dX1_flaggedBy_24 (fun r24 σ24 h => ?_)
      refine ww_if_eq (tgt := 40) C dX1_flaggedBy_27 (by decide) (fun hc => ?_) (fun hc => ?_)
      · have h := h.1 hc
        refine ww_iload_n C 3 rfl dX1_flaggedBy_40 ?_
        refine ww_bipush (v := 48) C dX1_flaggedBy_41 (by decide) ?_
        refine ww_icmp_ne (tgt := 49) C dX1_flaggedBy_43 (by decide) (fun hc => ?_) (fun hc => ?_)
        · have h := h.1 hc
          refine ww_iinc (v := (x4 + 1)) (lv' := [(4, .int (x4 + 1)), (0, .ref b0), (1, .int a1), (2, .int a2), (3, .int x3)]) C 4 rfl dX1_flaggedBy_49 rfl (by decide) rfl ?_
          refine ww_goto (tgt := 5) C dX1_flaggedBy_52 (by decide) ?_
          refine ww_sub [1, 2, 3, 4, 0] rfl ?_
          exact hRc _ _ _ h
        · have h := h.2 hc
          refine ww_sub [4] rfl ?_
          exact hK46 _ _ h
      · have h := h.2 hc
        refine ww_iload_n C 3 rfl dX1_flaggedBy_30 ?_
        refine ww_aload_n C 0 rfl dX1_flaggedBy_31 ?_
        refine ww_iload C 4 rfl dX1_flaggedBy_32 ?_
        refine ww_bipush (v := 15) C dX1_flaggedBy_34 (by decide) ?_
        refine ww_si (n := 4) (As := [.int x3, .ref b0, .int x4, .int 15]) (rest := []) C (c_X1_touch hb0 h) nq_448 nq_449 nq_438 nq_450 (by decide +kernel) rfl rfl ⟨Nat.le_of_ble_eq_true rfl, Nat.le_of_ble_eq_true rfl, Nat.le_of_ble_eq_true rfl, Nat.le_of_ble_eq_true rfl⟩ (Nat.le_of_ble_eq_true rfl) dX1_flaggedBy_36 (fun r36 σ36 h => ?_)
        refine ww_istore_n (lv' := [(3, .int r36), (0, .ref b0), (1, .int a1), (2, .int a2), (4, .int x4)]) C dX1_flaggedBy_39 rfl (by decide) rfl ?_
        refine ww_iload_n C 0 rfl dX1_flaggedBy_40 ?_
        refine ww_bipush (v := 48) C dX1_flaggedBy_41 (by decide) ?_
        refine ww_icmp_ne (tgt := 49) C dX1_flaggedBy_43 (by decide) (fun hc => ?_) (fun hc => ?_)
        · have h := h.1 hc
          refine ww_iinc (v := (x4 + 1)) (lv' := [(4, .int (x4 + 1)), (3, .int r36), (0, .ref b0), (1, .int a1), (2, .int a2)]) C 4 rfl dX1_flaggedBy_49 rfl (by decide) rfl ?_
          refine ww_goto (tgt := 5) C dX1_flaggedBy_52 (by decide) ?_
          refine ww_sub [2, 3, 4, 1, 0] rfl ?_
          exact hRc _ _ _ h
        · have h := h.2 hc
          refine ww_sub [4] rfl ?_
          exact hK46 _ _ h
set_option maxRecDepth 100000 in
set_option maxHeartbeats 4000000 in
theorem w_X1_flaggedBy_L5 {p : Program} {l : Launch} {e : Env} {s : State} {m : MethodId} {args : Array Value} {below : List Frame} {meth : Method} {c : Code} {dC : Nat → ClassId} {dI : Nat → Nat → Nat} {cA : Nat → ClassId} {A : Nat → Prop} {al : Nat → Nat} {sh : List Kd} (C : Fx p s m args c cX1_flaggedBy 5 yX1_flaggedBy.cls dC dI cA A al) (hr : meth.sig.returnType = some .int) (hlk : meth.locks = false) {b0 : Nat} (hb0 : isRow sh b0) {a1 : Int32} {a2 : Int32} {Q : Int32 → St → Prop} {K46 : St → Int32 → Prop} (hK46 : ∀ (σ : St) (x4 : Int32), K46 σ x4 → WW p l e (RM 2) s m args below meth c (MQ below (va_Qi Q (WPost dC dI cA al sh A) A) args s 0 0 A) dC dI cA A 5 0 0 al sh 46 [(4, .int x4)] [] σ) {K55 : St → Prop} (hK55 : ∀ (σ : St), K55 σ → WW p l e (RM 2) s m args below meth c (MQ below (va_Qi Q (WPost dC dI cA al sh A) A) args s 0 0 A) dC dI cA A 5 0 0 al sh 55 [] [] σ) : ∀ (f : Nat) (σ : St) (x3 : Int32) (x4 : Int32), m_X1_flaggedBy_L5 b0 a1 a2 Q K46 K55 f σ x3 x4 → WW p l e (RM 2) s m args below meth c (MQ below (va_Qi Q (WPost dC dI cA al sh A) A) args s 0 0 A) dC dI cA A 5 0 0 al sh 5 [(0, .ref b0), (1, .int a1), (2, .int a2), (3, .int x3), (4, .int x4)] [] σ := by
  intro f
  induction f with
  | zero => intro σ x3 x4 h; exact False.elim h
  | succ f ih => intro σ x3 x4 h; exact w_X1_flaggedBy_L5b (Q := Q) (a1 := a1) (a2 := a2) C hr hlk hb0 hK46 hK55 ih h
set_option maxRecDepth 100000 in
set_option maxHeartbeats 4000000 in
theorem w_X1_flaggedBy_J46 {p : Program} {l : Launch} {e : Env} {s : State} {m : MethodId} {args : Array Value} {below : List Frame} {meth : Method} {c : Code} {dC : Nat → ClassId} {dI : Nat → Nat → Nat} {cA : Nat → ClassId} {A : Nat → Prop} {al : Nat → Nat} {sh : List Kd} (C : Fx p s m args c cX1_flaggedBy 5 yX1_flaggedBy.cls dC dI cA A al) (hr : meth.sig.returnType = some .int) (hlk : meth.locks = false) {b0 : Nat} (hb0 : isRow sh b0) {a1 : Int32} {a2 : Int32} {Q : Int32 → St → Prop} {σ : St} {x4 : Int32} (h : m_X1_flaggedBy_J46 b0 a1 a2 Q σ x4) : WW p l e (RM 2) s m args below meth c (MQ below (va_Qi Q (WPost dC dI cA al sh A) A) args s 0 0 A) dC dI cA A 5 0 0 al sh 46 [(4, .int x4)] [] σ := by
  unfold m_X1_flaggedBy_J46 at h
  refine ww_iload C 0 rfl dX1_flaggedBy_46 ?_
  exact ww_iret C hr hlk h dX1_flaggedBy_48
set_option maxRecDepth 100000 in
set_option maxHeartbeats 4000000 in
theorem w_X1_flaggedBy_J55 {p : Program} {l : Launch} {e : Env} {s : State} {m : MethodId} {args : Array Value} {below : List Frame} {meth : Method} {c : Code} {dC : Nat → ClassId} {dI : Nat → Nat → Nat} {cA : Nat → ClassId} {A : Nat → Prop} {al : Nat → Nat} {sh : List Kd} (C : Fx p s m args c cX1_flaggedBy 5 yX1_flaggedBy.cls dC dI cA A al) (hr : meth.sig.returnType = some .int) (hlk : meth.locks = false) {b0 : Nat} (hb0 : isRow sh b0) {a1 : Int32} {a2 : Int32} {Q : Int32 → St → Prop} {σ : St} (h : m_X1_flaggedBy_J55 b0 a1 a2 Q σ) : WW p l e (RM 2) s m args below meth c (MQ below (va_Qi Q (WPost dC dI cA al sh A) A) args s 0 0 A) dC dI cA A 5 0 0 al sh 55 [] [] σ := by
  unfold m_X1_flaggedBy_J55 at h
  refine ww_bipush (v := -9) C dX1_flaggedBy_55 (by decide) ?_
  exact ww_iret C hr hlk h dX1_flaggedBy_57
set_option maxRecDepth 100000 in
set_option maxHeartbeats 4000000 in
theorem c_X1_flaggedBy {l : Launch} {dC : Nat → ClassId} {dI : Nat → Nat → Nat} {cA : Nat → ClassId} {al : Nat → Nat} {sh : List Kd} {b0 : Nat} (hb0 : isRow sh b0) {σ : St} {a1 : Int32} {a2 : Int32} {Q : Int32 → St → Prop} (h : m_X1_flaggedBy b0 σ a1 a2 Q) : ∀ sz, Met l yX1_flaggedBy (wd yX1_flaggedBy cX1_flaggedBy 5 (some .int)) (RM 2) (va_Pc ([.ref b0, .int a1, .int a2].map (cv al)) (WPre dC dI cA al sh σ sz)) (va_Qi Q (WPost dC dI cA al sh (AW al sh sz)) (AW al sh sz)) 0 0 (AW al sh sz) := by
  refine ww_met (Qc := fun A => va_Qi Q (WPost dC dI cA al sh A) A) (by decide +kernel) (Nat.le_of_ble_eq_true rfl) (fun p e s m args below meth c A C hr hlk => ?_)
  show WW p l e (RM 2) s m args below meth c (MQ below (va_Qi Q (WPost dC dI cA al sh A) A) args s 0 0 A) dC dI cA A 5 0 0 al sh 0 [(0, .ref b0), (1, .int a1), (2, .int a2)] [] σ
  unfold m_X1_flaggedBy at h
  refine ww_iconst (v := 0) C dX1_flaggedBy_0 (by decide) ?_
  refine ww_istore_n (lv' := [(3, .int 0), (0, .ref b0), (1, .int a1), (2, .int a2)]) C dX1_flaggedBy_1 rfl (by decide) rfl ?_
  refine ww_iconst (v := 0) C dX1_flaggedBy_2 (by decide) ?_
  refine ww_istore (lv' := [(4, .int 0), (3, .int 0), (0, .ref b0), (1, .int a1), (2, .int a2)]) C dX1_flaggedBy_3 (by decide) rfl ?_
  refine ww_sub [2, 3, 4, 1, 0] rfl ?_
  obtain ⟨f, h⟩ := h
  exact w_X1_flaggedBy_L5 (Q := Q) (a1 := a1) (a2 := a2) C hr hlk hb0 (fun σ x4 h => by exact w_X1_flaggedBy_J46 (Q := Q) (a1 := a1) (a2 := a2) C hr hlk hb0 h) (fun σ h => by exact w_X1_flaggedBy_J55 (Q := Q) (a1 := a1) (a2 := a2) C hr hlk hb0 h) f _ _ _ h
set_option maxRecDepth 100000 in
set_option maxHeartbeats 4000000 in
theorem w_X1_flaggedBits_L4b {p : Program} {l : Launch} {e : Env} {s : State} {m : MethodId} {args : Array Value} {below : List Frame} {meth : Method} {c : Code} {dC : Nat → ClassId} {dI : Nat → Nat → Nat} {cA : Nat → ClassId} {A : Nat → Prop} {al : Nat → Nat} {sh : List Kd} (C : Fx p s m args c cX1_flaggedBits 4 yX1_flaggedBits.cls dC dI cA A al) (hr : meth.sig.returnType = some .int) (hlk : meth.locks = false) {b0 : Nat} (hb0 : isRow sh b0) {a1 : Int32} {Q : Int32 → St → Prop} {K38 : St → Int32 → Prop} (hK38 : ∀ (σ : St) (x2 : Int32), K38 σ x2 → WW p l e (RM 3) s m args below meth c (MQ below (va_Qi Q (WPost dC dI cA al sh A) A) args s 0 0 A) dC dI cA A 4 0 0 al sh 38 [(2, .int x2)] [] σ) {Rc : St → Int32 → Int32 → Prop} (hRc : ∀ (σ : St) (x2 : Int32) (x3 : Int32), Rc σ x2 x3 → WW p l e (RM 3) s m args below meth c (MQ below (va_Qi Q (WPost dC dI cA al sh A) A) args s 0 0 A) dC dI cA A 4 0 0 al sh 4 [(0, .ref b0), (1, .int a1), (2, .int x2), (3, .int x3)] [] σ) {σ : St} {x2 : Int32} {x3 : Int32} (h : m_X1_flaggedBits_L4b b0 a1 Q K38 Rc σ x2 x3) : WW p l e (RM 3) s m args below meth c (MQ below (va_Qi Q (WPost dC dI cA al sh A) A) args s 0 0 A) dC dI cA A 4 0 0 al sh 4 [(0, .ref b0), (1, .int a1), (2, .int x2), (3, .int x3)] [] σ := by
  unfold m_X1_flaggedBits_L4b at h
  refine ww_iload_n C 3 rfl dX1_flaggedBits_4 ?_
  refine ww_iconst (v := 4) C dX1_flaggedBits_5 (by decide) ?_
  refine ww_icmp_ge (tgt := 38) C dX1_flaggedBits_6 (by decide) (fun hc => ?_) (fun hc => ?_)
  · have h := h.1 hc
    refine ww_sub [2] rfl ?_
    exact hK38 _ _ h
  · have h := h.2 hc
    refine ww_aload_n C 0 rfl dX1_flaggedBits_9 ?_
    refine ww_iload_n C 3 rfl dX1_flaggedBits_10 ?_
    refine ww_aload_n C 0 rfl dX1_flaggedBits_11 ?_
    refine ww_getIN C (row_o hb0) rfl inG4 0 (by decide) (List.mem_of_getElem? (i := 15) rfl) rfl dX1_flaggedBits_12 ?_
    refine ww_bipush (v := -9) C dX1_flaggedBits_15 (by decide) ?_
    refine ww_iload_n C 1 rfl dX1_flaggedBits_17 ?_
    refine ww_si (n := 5) (As := [.ref b0, .int x3, .int (σ.1 b0 0), .int (-9), .int a1]) (rest := []) C (c_X1_watch hb0 h) nq_764 nq_437 nq_438 nq_439 (by decide +kernel) rfl rfl ⟨Nat.le_of_ble_eq_true rfl, Nat.le_of_ble_eq_true rfl, Nat.le_of_ble_eq_true rfl, Nat.le_of_ble_eq_true rfl⟩ (Nat.le_of_ble_eq_true rfl) dX1_flaggedBits_18 (fun r18 σ18 h => ?_)
    refine ww_bipush (v := 48) C dX1_flaggedBits_21 (by decide) ?_
    refine ww_icmp_ne (tgt := 32) C dX1_flaggedBits_23 (by decide) (fun hc => ?_) (fun hc => ?_)
    · have h := h.1 hc
      refine ww_iinc (v := (x3 + 1)) (lv' := [(3, .int (x3 + 1)), (0, .ref b0), (1, .int a1), (2, .int x2)]) C 3 rfl dX1_flaggedBits_32 rfl (by decide) rfl ?_
      refine ww_goto (tgt := 4) C dX1_flaggedBits_35 (by decide) ?_
      refine ww_sub [1, 2, 3, 0] rfl ?_
      exact hRc _ _ _ h
    · have h := h.2 hc
      refine ww_iload_n C 2 rfl dX1_flaggedBits_26 ?_
      refine ww_iconst (v := 1) C dX1_flaggedBits_27 (by decide) ?_
      refine ww_iload_n C 3 rfl dX1_flaggedBits_28 ?_
      refine ww_ishl C dX1_flaggedBits_29 ?_
      refine ww_ior C dX1_flaggedBits_30 ?_
      refine ww_nmI h (fun y31 h => ?_)
      refine ww_istore_n (lv' := [(2, .int y31), (0, .ref b0), (1, .int a1), (3, .int x3)]) C dX1_flaggedBits_31 rfl (by decide) rfl ?_
      refine ww_iinc (v := (x3 + 1)) (lv' := [(3, .int (x3 + 1)), (2, .int y31), (0, .ref b0), (1, .int a1)]) C 3 rfl dX1_flaggedBits_32 rfl (by decide) rfl ?_
      refine ww_goto (tgt := 4) C dX1_flaggedBits_35 (by decide) ?_
      refine ww_sub [2, 3, 1, 0] rfl ?_
      exact hRc _ _ _ h
set_option maxRecDepth 100000 in
set_option maxHeartbeats 4000000 in
theorem w_X1_flaggedBits_L4 {p : Program} {l : Launch} {e : Env} {s : State} {m : MethodId} {args : Array Value} {below : List Frame} {meth : Method} {c : Code} {dC : Nat → ClassId} {dI : Nat → Nat → Nat} {cA : Nat → ClassId} {A : Nat → Prop} {al : Nat → Nat} {sh : List Kd} (C : Fx p s m args c cX1_flaggedBits 4 yX1_flaggedBits.cls dC dI cA A al) (hr : meth.sig.returnType = some .int) (hlk : meth.locks = false) {b0 : Nat} (hb0 : isRow sh b0) {a1 : Int32} {Q : Int32 → St → Prop} {K38 : St → Int32 → Prop} (hK38 : ∀ (σ : St) (x2 : Int32), K38 σ x2 → WW p l e (RM 3) s m args below meth c (MQ below (va_Qi Q (WPost dC dI cA al sh A) A) args s 0 0 A) dC dI cA A 4 0 0 al sh 38 [(2, .int x2)] [] σ) : ∀ (f : Nat) (σ : St) (x2 : Int32) (x3 : Int32), m_X1_flaggedBits_L4 b0 a1 Q K38 f σ x2 x3 → WW p l e (RM 3) s m args below meth c (MQ below (va_Qi Q (WPost dC dI cA al sh A) A) args s 0 0 A) dC dI cA A 4 0 0 al sh 4 [(0, .ref b0), (1, .int a1), (2, .int x2), (3, .int x3)] [] σ := by
  intro f
  induction f with
  | zero => intro σ x2 x3 h; exact False.elim h
  | succ f ih => intro σ x2 x3 h; exact w_X1_flaggedBits_L4b (Q := Q) (a1 := a1) C hr hlk hb0 hK38 ih h
set_option maxRecDepth 100000 in
set_option maxHeartbeats 4000000 in
theorem w_X1_flaggedBits_J38 {p : Program} {l : Launch} {e : Env} {s : State} {m : MethodId} {args : Array Value} {below : List Frame} {meth : Method} {c : Code} {dC : Nat → ClassId} {dI : Nat → Nat → Nat} {cA : Nat → ClassId} {A : Nat → Prop} {al : Nat → Nat} {sh : List Kd} (C : Fx p s m args c cX1_flaggedBits 4 yX1_flaggedBits.cls dC dI cA A al) (hr : meth.sig.returnType = some .int) (hlk : meth.locks = false) {b0 : Nat} (hb0 : isRow sh b0) {a1 : Int32} {Q : Int32 → St → Prop} {σ : St} {x2 : Int32} (h : m_X1_flaggedBits_J38 b0 a1 Q σ x2) : WW p l e (RM 3) s m args below meth c (MQ below (va_Qi Q (WPost dC dI cA al sh A) A) args s 0 0 A) dC dI cA A 4 0 0 al sh 38 [(2, .int x2)] [] σ := by
  unfold m_X1_flaggedBits_J38 at h
  refine ww_iload_n C 0 rfl dX1_flaggedBits_38 ?_
  exact ww_iret C hr hlk h dX1_flaggedBits_39
set_option maxRecDepth 100000 in
set_option maxHeartbeats 4000000 in
theorem c_X1_flaggedBits {l : Launch} {dC : Nat → ClassId} {dI : Nat → Nat → Nat} {cA : Nat → ClassId} {al : Nat → Nat} {sh : List Kd} {b0 : Nat} (hb0 : isRow sh b0) {σ : St} {a1 : Int32} {Q : Int32 → St → Prop} (h : m_X1_flaggedBits b0 σ a1 Q) : ∀ sz, Met l yX1_flaggedBits (wd yX1_flaggedBits cX1_flaggedBits 4 (some .int)) (RM 3) (va_Pc ([.ref b0, .int a1].map (cv al)) (WPre dC dI cA al sh σ sz)) (va_Qi Q (WPost dC dI cA al sh (AW al sh sz)) (AW al sh sz)) 0 0 (AW al sh sz) := by
  refine ww_met (Qc := fun A => va_Qi Q (WPost dC dI cA al sh A) A) (by decide +kernel) (Nat.le_of_ble_eq_true rfl) (fun p e s m args below meth c A C hr hlk => ?_)
  show WW p l e (RM 3) s m args below meth c (MQ below (va_Qi Q (WPost dC dI cA al sh A) A) args s 0 0 A) dC dI cA A 4 0 0 al sh 0 [(0, .ref b0), (1, .int a1)] [] σ
  unfold m_X1_flaggedBits at h
  refine ww_iconst (v := 0) C dX1_flaggedBits_0 (by decide) ?_
  refine ww_istore_n (lv' := [(2, .int 0), (0, .ref b0), (1, .int a1)]) C dX1_flaggedBits_1 rfl (by decide) rfl ?_
  refine ww_iconst (v := 0) C dX1_flaggedBits_2 (by decide) ?_
  refine ww_istore_n (lv' := [(3, .int 0), (2, .int 0), (0, .ref b0), (1, .int a1)]) C dX1_flaggedBits_3 rfl (by decide) rfl ?_
  refine ww_sub [2, 3, 1, 0] rfl ?_
  obtain ⟨f, h⟩ := h
  exact w_X1_flaggedBits_L4 (Q := Q) (a1 := a1) C hr hlk hb0 (fun σ x2 h => by exact w_X1_flaggedBits_J38 (Q := Q) (a1 := a1) C hr hlk hb0 h) f _ _ _ h
set_option maxRecDepth 100000 in
set_option maxHeartbeats 4000000 in
theorem c_J6_bitCount_0f7a4 {l : Launch} {dC : Nat → ClassId} {dI : Nat → Nat → Nat} {cA : Nat → ClassId} {al : Nat → Nat} {sh : List Kd} {σ : St} {a0 : Int32} {Q : Int32 → St → Prop} (h : m_J6_bitCount_0f7a4 σ a0 Q) : ∀ sz, Met l yJ6_bitCount_0f7a4 (wd yJ6_bitCount_0f7a4 cJ6_bitCount_0f7a4 1 (some .int)) (RM 0) (va_Pc ([.int a0].map (cv al)) (WPre dC dI cA al sh σ sz)) (va_Qi Q (WPost dC dI cA al sh (AW al sh sz)) (AW al sh sz)) 0 0 (AW al sh sz) := by
  refine ww_met (Qc := fun A => va_Qi Q (WPost dC dI cA al sh A) A) (by decide +kernel) (Nat.le_of_ble_eq_true rfl) (fun p e s m args below meth c A C hr hlk => ?_)
  show WW p l e (RM 0) s m args below meth c (MQ below (va_Qi Q (WPost dC dI cA al sh A) A) args s 0 0 A) dC dI cA A 1 0 0 al sh 0 [(0, .int a0)] [] σ
  unfold m_J6_bitCount_0f7a4 at h
  refine ww_iload_n C 0 rfl dJ6_bitCount_0f7a4_0 ?_
  refine ww_iload_n C 0 rfl dJ6_bitCount_0f7a4_1 ?_
  refine ww_iconst (v := 1) C dJ6_bitCount_0f7a4_2 (by decide) ?_
  refine ww_iushr C dJ6_bitCount_0f7a4_3 ?_
  refine ww_ldcw (v := 1431655765) C nq_769 dJ6_bitCount_0f7a4_4 ?_
  refine ww_iand C dJ6_bitCount_0f7a4_7 ?_
  refine ww_isub C dJ6_bitCount_0f7a4_8 ?_
  refine ww_nmI h (fun y9 h => ?_)
  refine ww_istore_n (lv' := [(0, .int y9)]) C dJ6_bitCount_0f7a4_9 rfl (by decide) rfl ?_
  refine ww_iload_n C 0 rfl dJ6_bitCount_0f7a4_10 ?_
  refine ww_ldcw (v := 858993459) C nq_770 dJ6_bitCount_0f7a4_11 ?_
  refine ww_iand C dJ6_bitCount_0f7a4_14 ?_
  refine ww_iload_n C 0 rfl dJ6_bitCount_0f7a4_15 ?_
  refine ww_iconst (v := 2) C dJ6_bitCount_0f7a4_16 (by decide) ?_
  refine ww_iushr C dJ6_bitCount_0f7a4_17 ?_
  refine ww_ldcw (v := 858993459) C nq_770 dJ6_bitCount_0f7a4_18 ?_
  refine ww_iand C dJ6_bitCount_0f7a4_21 ?_
  refine ww_iadd C dJ6_bitCount_0f7a4_22 ?_
  refine ww_nmI h (fun y23 h => ?_)
  refine ww_istore_n (lv' := [(0, .int y23)]) C dJ6_bitCount_0f7a4_23 rfl (by decide) rfl ?_
  refine ww_iload_n C 0 rfl dJ6_bitCount_0f7a4_24 ?_
  refine ww_iload_n C 0 rfl dJ6_bitCount_0f7a4_25 ?_
  refine ww_iconst (v := 4) C dJ6_bitCount_0f7a4_26 (by decide) ?_
  refine ww_iushr C dJ6_bitCount_0f7a4_27 ?_
  refine ww_iadd C dJ6_bitCount_0f7a4_28 ?_
  refine ww_ldcw (v := 252645135) C nq_771 dJ6_bitCount_0f7a4_29 ?_
  refine ww_iand C dJ6_bitCount_0f7a4_32 ?_
  refine ww_nmI h (fun y33 h => ?_)
  refine ww_istore_n (lv' := [(0, .int y33)]) C dJ6_bitCount_0f7a4_33 rfl (by decide) rfl ?_
  refine ww_iload_n C 0 rfl dJ6_bitCount_0f7a4_34 ?_
  refine ww_iload_n C 0 rfl dJ6_bitCount_0f7a4_35 ?_
  refine ww_bipush (v := 8) C dJ6_bitCount_0f7a4_36 (by decide) ?_
  refine ww_iushr C dJ6_bitCount_0f7a4_38 ?_
  refine ww_iadd C dJ6_bitCount_0f7a4_39 ?_
  refine ww_nmI h (fun y40 h => ?_)
  refine ww_istore_n (lv' := [(0, .int y40)]) C dJ6_bitCount_0f7a4_40 rfl (by decide) rfl ?_
  refine ww_iload_n C 0 rfl dJ6_bitCount_0f7a4_41 ?_
  refine ww_iload_n C 0 rfl dJ6_bitCount_0f7a4_42 ?_
  refine ww_bipush (v := 16) C dJ6_bitCount_0f7a4_43 (by decide) ?_
  refine ww_iushr C dJ6_bitCount_0f7a4_45 ?_
  refine ww_iadd C dJ6_bitCount_0f7a4_46 ?_
  refine ww_nmI h (fun y47 h => ?_)
  refine ww_istore_n (lv' := [(0, .int y47)]) C dJ6_bitCount_0f7a4_47 rfl (by decide) rfl ?_
  refine ww_iload_n C 0 rfl dJ6_bitCount_0f7a4_48 ?_
  refine ww_bipush (v := 63) C dJ6_bitCount_0f7a4_49 (by decide) ?_
  refine ww_iand C dJ6_bitCount_0f7a4_51 ?_
  exact ww_iret C hr hlk h dJ6_bitCount_0f7a4_52
set_option maxRecDepth 100000 in
set_option maxHeartbeats 4000000 in
theorem c_X1_flaggedCount {l : Launch} {dC : Nat → ClassId} {dI : Nat → Nat → Nat} {cA : Nat → ClassId} {al : Nat → Nat} {sh : List Kd} {b0 : Nat} (hb0 : isRow sh b0) {σ : St} {a1 : Int32} {Q : Int32 → St → Prop} (h : m_X1_flaggedCount b0 σ a1 Q) : ∀ sz, Met l yX1_flaggedCount (wd yX1_flaggedCount cX1_flaggedCount 2 (some .int)) (RM 4) (va_Pc ([.ref b0, .int a1].map (cv al)) (WPre dC dI cA al sh σ sz)) (va_Qi Q (WPost dC dI cA al sh (AW al sh sz)) (AW al sh sz)) 0 0 (AW al sh sz) := by
  refine ww_met (Qc := fun A => va_Qi Q (WPost dC dI cA al sh A) A) (by decide +kernel) (Nat.le_of_ble_eq_true rfl) (fun p e s m args below meth c A C hr hlk => ?_)
  show WW p l e (RM 4) s m args below meth c (MQ below (va_Qi Q (WPost dC dI cA al sh A) A) args s 0 0 A) dC dI cA A 2 0 0 al sh 0 [(0, .ref b0), (1, .int a1)] [] σ
  unfold m_X1_flaggedCount at h
  refine ww_aload_n C 0 rfl dX1_flaggedCount_0 ?_
  refine ww_iload_n C 1 rfl dX1_flaggedCount_1 ?_
  refine ww_si (n := 2) (As := [.ref b0, .int a1]) (rest := []) C (c_X1_flaggedBits hb0 h) nq_761 nq_762 nq_438 nq_763 (by decide +kernel) rfl rfl ⟨Nat.le_of_ble_eq_true rfl, Nat.le_of_ble_eq_true rfl, Nat.le_of_ble_eq_true rfl, Nat.le_of_ble_eq_true rfl⟩ (Nat.le_of_ble_eq_true rfl) dX1_flaggedCount_2 (fun r2 σ2 h => ?_)
  refine ww_si (n := 1) (As := [.int r2]) (rest := []) C (c_J6_bitCount_0f7a4 h) nq_765 nq_766 nq_767 nq_768 (by decide +kernel) rfl rfl ⟨Nat.le_of_ble_eq_true rfl, Nat.le_of_ble_eq_true rfl, Nat.le_of_ble_eq_true rfl, Nat.le_of_ble_eq_true rfl⟩ (Nat.le_of_ble_eq_true rfl) dX1_flaggedCount_5 (fun r5 σ5 h => ?_)
  exact ww_iret C hr hlk h dX1_flaggedCount_8
set_option maxRecDepth 100000 in
set_option maxHeartbeats 4000000 in
theorem w_X1_touches_L5b {p : Program} {l : Launch} {e : Env} {s : State} {m : MethodId} {args : Array Value} {below : List Frame} {meth : Method} {c : Code} {dC : Nat → ClassId} {dI : Nat → Nat → Nat} {cA : Nat → ClassId} {A : Nat → Prop} {al : Nat → Nat} {sh : List Kd} (C : Fx p s m args c cX1_touches 5 yX1_touches.cls dC dI cA A al) (hr : meth.sig.returnType = some .int) (hlk : meth.locks = false) {b0 : Nat} (hb0 : isRow sh b0) {a1 : Int32} {a2 : Int32} {Q : Int32 → St → Prop} {K39 : St → Int32 → Prop} (hK39 : ∀ (σ : St) (x3 : Int32), K39 σ x3 → WW p l e (RM 2) s m args below meth c (MQ below (va_Qi Q (WPost dC dI cA al sh A) A) args s 0 0 A) dC dI cA A 5 0 0 al sh 39 [(3, .int x3)] [] σ) {Rc : St → Int32 → Int32 → Prop} (hRc : ∀ (σ : St) (x3 : Int32) (x4 : Int32), Rc σ x3 x4 → WW p l e (RM 2) s m args below meth c (MQ below (va_Qi Q (WPost dC dI cA al sh A) A) args s 0 0 A) dC dI cA A 5 0 0 al sh 5 [(0, .ref b0), (1, .int a1), (2, .int a2), (3, .int x3), (4, .int x4)] [] σ) {σ : St} {x3 : Int32} {x4 : Int32} (h : m_X1_touches_L5b b0 a1 a2 Q K39 Rc σ x3 x4) : WW p l e (RM 2) s m args below meth c (MQ below (va_Qi Q (WPost dC dI cA al sh A) A) args s 0 0 A) dC dI cA A 5 0 0 al sh 5 [(0, .ref b0), (1, .int a1), (2, .int a2), (3, .int x3), (4, .int x4)] [] σ := by
  unfold m_X1_touches_L5b at h
  refine ww_iload C 4 rfl dX1_touches_5 ?_
  refine ww_iload_n C 2 rfl dX1_touches_7 ?_
  refine ww_icmp_ge (tgt := 39) C dX1_touches_8 (by decide) (fun hc => ?_) (fun hc => ?_)
  · have h := h.1 hc
    refine ww_sub [3] rfl ?_
    exact hK39 _ _ h
  · have h := h.2 hc
    refine ww_iload C 4 rfl dX1_touches_11 ?_
    refine ww_aload_n C 0 rfl dX1_touches_13 ?_
    refine ww_getIN C (row_o hb0) rfl inG4 0 (by decide) (List.mem_of_getElem? (i := 15) rfl) rfl dX1_touches_14 ?_
    refine ww_icmp_ge (tgt := 39) C dX1_touches_17 (by decide) (fun hc => ?_) (fun hc => ?_)
    · have h := h.1 hc
      refine ww_sub [3] rfl ?_
      exact hK39 _ _ h
    · have h := h.2 hc
      refine ww_aload_n C 0 rfl dX1_touches_20 ?_
      refine ww_iload C 4 rfl dX1_touches_21 ?_
      refine ww_iload_n C 1 rfl dX1_touches_23 ?_
      refine ww_vi (n := 2) (As := [.int x4, .int a1]) (rest := []) C (c_X4_touchesAt hb0 h) (row_o hb0) rfl nq_440 nq_441 nq_442 nq_19 nq_443 (by decide +kernel) rfl rfl ⟨Nat.le_of_ble_eq_true rfl, Nat.le_of_ble_eq_true rfl, Nat.le_of_ble_eq_true rfl, Nat.le_of_ble_eq_true rfl⟩ (Nat.le_of_ble_eq_true rfl) dX1_touches_24 (fun r24 σ24 h => ?_)
      refine ww_if_eq (tgt := 33) C dX1_touches_27 (by decide) (fun hc => ?_) (fun hc => ?_)
      · have h := h.1 hc
        refine ww_iinc (v := (x4 + 1)) (lv' := [(4, .int (x4 + 1)), (0, .ref b0), (1, .int a1), (2, .int a2), (3, .int x3)]) C 4 rfl dX1_touches_33 rfl (by decide) rfl ?_
        refine ww_goto (tgt := 5) C dX1_touches_36 (by decide) ?_
        refine ww_sub [1, 2, 3, 4, 0] rfl ?_
        exact hRc _ _ _ h
      · have h := h.2 hc
        refine ww_iinc (v := (x3 + 1)) (lv' := [(3, .int (x3 + 1)), (0, .ref b0), (1, .int a1), (2, .int a2), (4, .int x4)]) C 3 rfl dX1_touches_30 rfl (by decide) rfl ?_
        refine ww_iinc (v := (x4 + 1)) (lv' := [(4, .int (x4 + 1)), (3, .int (x3 + 1)), (0, .ref b0), (1, .int a1), (2, .int a2)]) C 4 rfl dX1_touches_33 rfl (by decide) rfl ?_
        refine ww_goto (tgt := 5) C dX1_touches_36 (by decide) ?_
        refine ww_sub [2, 3, 4, 1, 0] rfl ?_
        exact hRc _ _ _ h
set_option maxRecDepth 100000 in
set_option maxHeartbeats 4000000 in
theorem w_X1_touches_L5 {p : Program} {l : Launch} {e : Env} {s : State} {m : MethodId} {args : Array Value} {below : List Frame} {meth : Method} {c : Code} {dC : Nat → ClassId} {dI : Nat → Nat → Nat} {cA : Nat → ClassId} {A : Nat → Prop} {al : Nat → Nat} {sh : List Kd} (C : Fx p s m args c cX1_touches 5 yX1_touches.cls dC dI cA A al) (hr : meth.sig.returnType = some .int) (hlk : meth.locks = false) {b0 : Nat} (hb0 : isRow sh b0) {a1 : Int32} {a2 : Int32} {Q : Int32 → St → Prop} {K39 : St → Int32 → Prop} (hK39 : ∀ (σ : St) (x3 : Int32), K39 σ x3 → WW p l e (RM 2) s m args below meth c (MQ below (va_Qi Q (WPost dC dI cA al sh A) A) args s 0 0 A) dC dI cA A 5 0 0 al sh 39 [(3, .int x3)] [] σ) : ∀ (f : Nat) (σ : St) (x3 : Int32) (x4 : Int32), m_X1_touches_L5 b0 a1 a2 Q K39 f σ x3 x4 → WW p l e (RM 2) s m args below meth c (MQ below (va_Qi Q (WPost dC dI cA al sh A) A) args s 0 0 A) dC dI cA A 5 0 0 al sh 5 [(0, .ref b0), (1, .int a1), (2, .int a2), (3, .int x3), (4, .int x4)] [] σ := by
  intro f
  induction f with
  | zero => intro σ x3 x4 h; exact False.elim h
  | succ f ih => intro σ x3 x4 h; exact w_X1_touches_L5b (Q := Q) (a1 := a1) (a2 := a2) C hr hlk hb0 hK39 ih h
set_option maxRecDepth 100000 in
set_option maxHeartbeats 4000000 in
theorem w_X1_touches_J39 {p : Program} {l : Launch} {e : Env} {s : State} {m : MethodId} {args : Array Value} {below : List Frame} {meth : Method} {c : Code} {dC : Nat → ClassId} {dI : Nat → Nat → Nat} {cA : Nat → ClassId} {A : Nat → Prop} {al : Nat → Nat} {sh : List Kd} (C : Fx p s m args c cX1_touches 5 yX1_touches.cls dC dI cA A al) (hr : meth.sig.returnType = some .int) (hlk : meth.locks = false) {b0 : Nat} (hb0 : isRow sh b0) {a1 : Int32} {a2 : Int32} {Q : Int32 → St → Prop} {σ : St} {x3 : Int32} (h : m_X1_touches_J39 b0 a1 a2 Q σ x3) : WW p l e (RM 2) s m args below meth c (MQ below (va_Qi Q (WPost dC dI cA al sh A) A) args s 0 0 A) dC dI cA A 5 0 0 al sh 39 [(3, .int x3)] [] σ := by
  unfold m_X1_touches_J39 at h
  refine ww_iload_n C 0 rfl dX1_touches_39 ?_
  exact ww_iret C hr hlk h dX1_touches_40
set_option maxRecDepth 100000 in
set_option maxHeartbeats 4000000 in
theorem c_X1_touches {l : Launch} {dC : Nat → ClassId} {dI : Nat → Nat → Nat} {cA : Nat → ClassId} {al : Nat → Nat} {sh : List Kd} {b0 : Nat} (hb0 : isRow sh b0) {σ : St} {a1 : Int32} {a2 : Int32} {Q : Int32 → St → Prop} (h : m_X1_touches b0 σ a1 a2 Q) : ∀ sz, Met l yX1_touches (wd yX1_touches cX1_touches 5 (some .int)) (RM 2) (va_Pc ([.ref b0, .int a1, .int a2].map (cv al)) (WPre dC dI cA al sh σ sz)) (va_Qi Q (WPost dC dI cA al sh (AW al sh sz)) (AW al sh sz)) 0 0 (AW al sh sz) := by
  refine ww_met (Qc := fun A => va_Qi Q (WPost dC dI cA al sh A) A) (by decide +kernel) (Nat.le_of_ble_eq_true rfl) (fun p e s m args below meth c A C hr hlk => ?_)
  show WW p l e (RM 2) s m args below meth c (MQ below (va_Qi Q (WPost dC dI cA al sh A) A) args s 0 0 A) dC dI cA A 5 0 0 al sh 0 [(0, .ref b0), (1, .int a1), (2, .int a2)] [] σ
  unfold m_X1_touches at h
  refine ww_iconst (v := 0) C dX1_touches_0 (by decide) ?_
  refine ww_istore_n (lv' := [(3, .int 0), (0, .ref b0), (1, .int a1), (2, .int a2)]) C dX1_touches_1 rfl (by decide) rfl ?_
  refine ww_iconst (v := 0) C dX1_touches_2 (by decide) ?_
  refine ww_istore (lv' := [(4, .int 0), (3, .int 0), (0, .ref b0), (1, .int a1), (2, .int a2)]) C dX1_touches_3 (by decide) rfl ?_
  refine ww_sub [2, 3, 4, 1, 0] rfl ?_
  obtain ⟨f, h⟩ := h
  exact w_X1_touches_L5 (Q := Q) (a1 := a1) (a2 := a2) C hr hlk hb0 (fun σ x3 h => by exact w_X1_touches_J39 (Q := Q) (a1 := a1) (a2 := a2) C hr hlk hb0 h) f _ _ _ h
set_option maxRecDepth 100000 in
set_option maxHeartbeats 4000000 in
theorem c_X4_isAhead {l : Launch} {dC : Nat → ClassId} {dI : Nat → Nat → Nat} {cA : Nat → ClassId} {al : Nat → Nat} {sh : List Kd} {b0 : Nat} (hb0 : isRow sh b0) {σ : St} {a1 : Int32} {a2 : Int32} {Q : Int32 → St → Prop} (h : m_X4_isAhead b0 σ a1 a2 Q) : ∀ sz, Met l yX4_isAhead (wd yX4_isAhead cX4_isAhead 3 (some .boolean)) (RM 0) (va_Pc ([.ref b0, .int a1, .int a2].map (cv al)) (WPre dC dI cA al sh σ sz)) (va_Qi Q (WPost dC dI cA al sh (AW al sh sz)) (AW al sh sz)) 0 0 (AW al sh sz) := by
  refine ww_met (Qc := fun A => va_Qi Q (WPost dC dI cA al sh A) A) (by decide +kernel) (Nat.le_of_ble_eq_true rfl) (fun p e s m args below meth c A C hr hlk => ?_)
  show WW p l e (RM 0) s m args below meth c (MQ below (va_Qi Q (WPost dC dI cA al sh A) A) args s 0 0 A) dC dI cA A 3 0 0 al sh 0 [(0, .ref b0), (1, .int a1), (2, .int a2)] [] σ
  unfold m_X4_isAhead at h
  refine ww_aload_n C 0 rfl dX4_isAhead_0 ?_
  refine ww_getR C (row_o hb0) rfl inG4 5 (by decide) nq_56 rfl dX4_isAhead_1 ?_
  refine ww_iload_n C 2 rfl dX4_isAhead_4 ?_
  refine ww_iald C (row_5 hb0) h.1 dX4_isAhead_5 ?_
  have h := h.2
  refine ww_iload_n C 1 rfl dX4_isAhead_6 ?_
  refine ww_ishr C dX4_isAhead_7 ?_
  refine ww_iconst (v := 1) C dX4_isAhead_8 (by decide) ?_
  refine ww_iand C dX4_isAhead_9 ?_
  refine ww_iconst (v := 1) C dX4_isAhead_10 (by decide) ?_
  refine ww_icmp_ne (tgt := 18) C dX4_isAhead_11 (by decide) (fun hc => ?_) (fun hc => ?_)
  · have h := h.1 hc
    refine ww_iconst (v := 0) C dX4_isAhead_18 (by decide) ?_
    exact ww_zret C hr hlk (by decide) h dX4_isAhead_19
  · have h := h.2 hc
    refine ww_iconst (v := 1) C dX4_isAhead_14 (by decide) ?_
    refine ww_goto (tgt := 19) C dX4_isAhead_15 (by decide) ?_
    exact ww_zret C hr hlk (by decide) h dX4_isAhead_19
set_option maxRecDepth 100000 in
set_option maxHeartbeats 4000000 in
theorem w_X1_meet_J47 {p : Program} {l : Launch} {e : Env} {s : State} {m : MethodId} {args : Array Value} {below : List Frame} {meth : Method} {c : Code} {dC : Nat → ClassId} {dI : Nat → Nat → Nat} {cA : Nat → ClassId} {A : Nat → Prop} {al : Nat → Nat} {sh : List Kd} (C : Fx p s m args c cX1_meet 4 yX1_meet.cls dC dI cA A al) (hr : meth.sig.returnType = some .boolean) (hlk : meth.locks = false) {b0 : Nat} (hb0 : isRow sh b0) {a1 : Int32} {a2 : Int32} {a3 : Int32} {Q : Int32 → St → Prop} {σ : St} (h : m_X1_meet_J47 b0 a1 a2 a3 Q σ) : WW p l e (RM 2) s m args below meth c (MQ below (va_Qi Q (WPost dC dI cA al sh A) A) args s 0 0 A) dC dI cA A 4 0 0 al sh 47 [(0, .ref b0), (2, .int a2), (3, .int a3)] [] σ := by
  unfold m_X1_meet_J47 at h
  refine ww_aload_n C 0 rfl dX1_meet_47 ?_
  refine ww_iload_n C 1 rfl dX1_meet_48 ?_
  refine ww_iload_n C 2 rfl dX1_meet_49 ?_
  refine ww_vi (n := 2) (As := [.int a2, .int a3]) (rest := []) C (c_X4_isAhead hb0 h) (row_o hb0) rfl nq_535 nq_510 nq_511 nq_19 nq_512 (by decide +kernel) rfl rfl ⟨Nat.le_of_ble_eq_true rfl, Nat.le_of_ble_eq_true rfl, Nat.le_of_ble_eq_true rfl, Nat.le_of_ble_eq_true rfl⟩ (Nat.le_of_ble_eq_true rfl) dX1_meet_50 (fun r50 σ50 h => ?_)
  refine ww_if_ne (tgt := 76) C dX1_meet_53 (by decide) (fun hc => ?_) (fun hc => ?_)
  · have h := h.1 hc
    refine ww_iconst (v := 0) C dX1_meet_76 (by decide) ?_
    exact ww_zret C hr hlk (by decide) h dX1_meet_77
  · have h := h.2 hc
    refine ww_aload_n C 0 rfl dX1_meet_56 ?_
    refine ww_getRN C (row_o hb0) rfl inG4 4 (by decide) (List.mem_of_getElem? (i := 14) rfl) rfl dX1_meet_57 ?_
    refine ww_iload_n C 1 rfl dX1_meet_60 ?_
    refine ww_iald C (row_4 hb0) h.1 dX1_meet_61 ?_
    have h := h.2
    refine ww_aload_n C 0 rfl dX1_meet_62 ?_
    refine ww_getRN C (row_o hb0) rfl inG4 4 (by decide) (List.mem_of_getElem? (i := 14) rfl) rfl dX1_meet_63 ?_
    refine ww_iload_n C 2 rfl dX1_meet_66 ?_
    refine ww_iald C (row_4 hb0) h.1 dX1_meet_67 ?_
    have h := h.2
    refine ww_iand C dX1_meet_68 ?_
    refine ww_if_ne (tgt := 76) C dX1_meet_69 (by decide) (fun hc => ?_) (fun hc => ?_)
    · have h := h.1 hc
      refine ww_iconst (v := 0) C dX1_meet_76 (by decide) ?_
      exact ww_zret C hr hlk (by decide) h dX1_meet_77
    · have h := h.2 hc
      refine ww_iconst (v := 1) C dX1_meet_72 (by decide) ?_
      refine ww_goto (tgt := 77) C dX1_meet_73 (by decide) ?_
      exact ww_zret C hr hlk (by decide) h dX1_meet_77
set_option maxRecDepth 100000 in
set_option maxHeartbeats 4000000 in
theorem c_X1_meet {l : Launch} {dC : Nat → ClassId} {dI : Nat → Nat → Nat} {cA : Nat → ClassId} {al : Nat → Nat} {sh : List Kd} {b0 : Nat} (hb0 : isRow sh b0) {σ : St} {a1 : Int32} {a2 : Int32} {a3 : Int32} {Q : Int32 → St → Prop} (h : m_X1_meet b0 σ a1 a2 a3 Q) : ∀ sz, Met l yX1_meet (wd yX1_meet cX1_meet 4 (some .boolean)) (RM 2) (va_Pc ([.ref b0, .int a1, .int a2, .int a3].map (cv al)) (WPre dC dI cA al sh σ sz)) (va_Qi Q (WPost dC dI cA al sh (AW al sh sz)) (AW al sh sz)) 0 0 (AW al sh sz) := by
  refine ww_met (Qc := fun A => va_Qi Q (WPost dC dI cA al sh A) A) (by decide +kernel) (Nat.le_of_ble_eq_true rfl) (fun p e s m args below meth c A C hr hlk => ?_)
  show WW p l e (RM 2) s m args below meth c (MQ below (va_Qi Q (WPost dC dI cA al sh A) A) args s 0 0 A) dC dI cA A 4 0 0 al sh 0 [(0, .ref b0), (1, .int a1), (2, .int a2), (3, .int a3)] [] σ
  unfold m_X1_meet at h
  refine ww_aload_n C 0 rfl dX1_meet_0 ?_
  refine ww_iload_n C 2 rfl dX1_meet_1 ?_
  refine ww_iload_n C 1 rfl dX1_meet_2 ?_
  refine ww_vi (n := 2) (As := [.int a2, .int a1]) (rest := []) C (c_X4_touchesAt hb0 h) (row_o hb0) rfl nq_440 nq_441 nq_442 nq_19 nq_443 (by decide +kernel) rfl rfl ⟨Nat.le_of_ble_eq_true rfl, Nat.le_of_ble_eq_true rfl, Nat.le_of_ble_eq_true rfl, Nat.le_of_ble_eq_true rfl⟩ (Nat.le_of_ble_eq_true rfl) dX1_meet_3 (fun r3 σ3 h => ?_)
  refine ww_if_eq (tgt := 76) C dX1_meet_6 (by decide) (fun hc => ?_) (fun hc => ?_)
  · have h := h.1 hc
    refine ww_iconst (v := 0) C dX1_meet_76 (by decide) ?_
    exact ww_zret C hr hlk (by decide) h dX1_meet_77
  · have h := h.2 hc
    refine ww_aload_n C 0 rfl dX1_meet_9 ?_
    refine ww_iload_n C 3 rfl dX1_meet_10 ?_
    refine ww_iload_n C 1 rfl dX1_meet_11 ?_
    refine ww_vi (n := 2) (As := [.int a3, .int a1]) (rest := []) C (c_X4_touchesAt hb0 h) (row_o hb0) rfl nq_440 nq_441 nq_442 nq_19 nq_443 (by decide +kernel) rfl rfl ⟨Nat.le_of_ble_eq_true rfl, Nat.le_of_ble_eq_true rfl, Nat.le_of_ble_eq_true rfl, Nat.le_of_ble_eq_true rfl⟩ (Nat.le_of_ble_eq_true rfl) dX1_meet_12 (fun r12 σ12 h => ?_)
    refine ww_if_eq (tgt := 76) C dX1_meet_15 (by decide) (fun hc => ?_) (fun hc => ?_)
    · have h := h.1 hc
      refine ww_iconst (v := 0) C dX1_meet_76 (by decide) ?_
      exact ww_zret C hr hlk (by decide) h dX1_meet_77
    · have h := h.2 hc
      refine ww_aload_n C 0 rfl dX1_meet_18 ?_
      refine ww_iload_n C 2 rfl dX1_meet_19 ?_
      refine ww_vi (n := 1) (As := [.int a2]) (rest := []) C (c_X4_threadAt hb0 h) (row_o hb0) rfl nq_454 nq_304 nq_305 nq_19 nq_306 (by decide +kernel) rfl rfl ⟨Nat.le_of_ble_eq_true rfl, Nat.le_of_ble_eq_true rfl, Nat.le_of_ble_eq_true rfl, Nat.le_of_ble_eq_true rfl⟩ (Nat.le_of_ble_eq_true rfl) dX1_meet_20 (fun r20 σ20 h => ?_)
      refine ww_aload_n C 0 rfl dX1_meet_23 ?_
      refine ww_iload_n C 3 rfl dX1_meet_24 ?_
      refine ww_vi (n := 1) (As := [.int a3]) (rest := [.int r20]) C (c_X4_threadAt hb0 h) (row_o hb0) rfl nq_454 nq_304 nq_305 nq_19 nq_306 (by decide +kernel) rfl rfl ⟨Nat.le_of_ble_eq_true rfl, Nat.le_of_ble_eq_true rfl, Nat.le_of_ble_eq_true rfl, Nat.le_of_ble_eq_true rfl⟩ (Nat.le_of_ble_eq_true rfl) dX1_meet_25 (fun r25 σ25 h => ?_)
      refine ww_icmp_eq (tgt := 76) C dX1_meet_28 (by decide) (fun hc => ?_) (fun hc => ?_)
      · have h := h.1 hc
        refine ww_iconst (v := 0) C dX1_meet_76 (by decide) ?_
        exact ww_zret C hr hlk (by decide) h dX1_meet_77
      · have h := h.2 hc
        refine ww_aload_n C 0 rfl dX1_meet_31 ?_
        refine ww_iload_n C 2 rfl dX1_meet_32 ?_
        refine ww_vi (n := 1) (As := [.int a2]) (rest := []) C (c_X4_writesAt hb0 h) (row_o hb0) rfl nq_455 nq_456 nq_457 nq_19 nq_458 (by decide +kernel) rfl rfl ⟨Nat.le_of_ble_eq_true rfl, Nat.le_of_ble_eq_true rfl, Nat.le_of_ble_eq_true rfl, Nat.le_of_ble_eq_true rfl⟩ (Nat.le_of_ble_eq_true rfl) dX1_meet_33 (fun r33 σ33 h => ?_)
        refine ww_if_ne (tgt := 47) C dX1_meet_36 (by decide) (fun hc => ?_) (fun hc => ?_)
        · have h := h.1 hc
          refine ww_sub [0, 2, 3] rfl ?_
          exact w_X1_meet_J47 (Q := Q) (a1 := a1) (a2 := a2) (a3 := a3) C hr hlk hb0 h
        · have h := h.2 hc
          refine ww_aload_n C 0 rfl dX1_meet_39 ?_
          refine ww_iload_n C 3 rfl dX1_meet_40 ?_
          refine ww_vi (n := 1) (As := [.int a3]) (rest := []) C (c_X4_writesAt hb0 h) (row_o hb0) rfl nq_455 nq_456 nq_457 nq_19 nq_458 (by decide +kernel) rfl rfl ⟨Nat.le_of_ble_eq_true rfl, Nat.le_of_ble_eq_true rfl, Nat.le_of_ble_eq_true rfl, Nat.le_of_ble_eq_true rfl⟩ (Nat.le_of_ble_eq_true rfl) dX1_meet_41 (fun r41 σ41 h => ?_)
          refine ww_if_eq (tgt := 76) C dX1_meet_44 (by decide) (fun hc => ?_) (fun hc => ?_)
          · have h := h.1 hc
            refine ww_iconst (v := 0) C dX1_meet_76 (by decide) ?_
            exact ww_zret C hr hlk (by decide) h dX1_meet_77
          · have h := h.2 hc
            refine ww_sub [0, 2, 3] rfl ?_
            exact w_X1_meet_J47 (Q := Q) (a1 := a1) (a2 := a2) (a3 := a3) C hr hlk hb0 h
set_option maxRecDepth 100000 in
set_option maxHeartbeats 4000000 in
theorem w_X1_meetingCount_L17b {p : Program} {l : Launch} {e : Env} {s : State} {m : MethodId} {args : Array Value} {below : List Frame} {meth : Method} {c : Code} {dC : Nat → ClassId} {dI : Nat → Nat → Nat} {cA : Nat → ClassId} {A : Nat → Prop} {al : Nat → Nat} {sh : List Kd} (C : Fx p s m args c cX1_meetingCount 5 yX1_meetingCount.cls dC dI cA A al) (hr : meth.sig.returnType = some .int) (hlk : meth.locks = false) {b0 : Nat} (hb0 : isRow sh b0) {a1 : Int32} {Q : Int32 → St → Prop} {x3 : Int32} {K46 : St → Int32 → Prop} (hK46 : ∀ (σ : St) (x2 : Int32), K46 σ x2 → WW p l e (RM 3) s m args below meth c (MQ below (va_Qi Q (WPost dC dI cA al sh A) A) args s 0 0 A) dC dI cA A 5 0 0 al sh 46 [(0, .ref b0), (1, .int a1), (2, .int x2), (3, .int x3)] [] σ) {Rc : St → Int32 → Int32 → Prop} (hRc : ∀ (σ : St) (x2 : Int32) (x4 : Int32), Rc σ x2 x4 → WW p l e (RM 3) s m args below meth c (MQ below (va_Qi Q (WPost dC dI cA al sh A) A) args s 0 0 A) dC dI cA A 5 0 0 al sh 17 [(0, .ref b0), (1, .int a1), (2, .int x2), (3, .int x3), (4, .int x4)] [] σ) {σ : St} {x2 : Int32} {x4 : Int32} (h : m_X1_meetingCount_L17b b0 a1 Q x3 K46 Rc σ x2 x4) : WW p l e (RM 3) s m args below meth c (MQ below (va_Qi Q (WPost dC dI cA al sh A) A) args s 0 0 A) dC dI cA A 5 0 0 al sh 17 [(0, .ref b0), (1, .int a1), (2, .int x2), (3, .int x3), (4, .int x4)] [] σ := by
  unfold m_X1_meetingCount_L17b at h
  refine ww_iload C 4 rfl dX1_meetingCount_17 ?_
  refine ww_aload_n C 0 rfl dX1_meetingCount_19 ?_
  refine ww_getIN C (row_o hb0) rfl inG4 0 (by decide) (List.mem_of_getElem? (i := 15) rfl) rfl dX1_meetingCount_20 ?_
  refine ww_icmp_ge (tgt := 46) C dX1_meetingCount_23 (by decide) (fun hc => ?_) (fun hc => ?_)
  · have h := h.1 hc
    refine ww_sub [0, 1, 2, 3] rfl ?_
    exact hK46 _ _ h
  · have h := h.2 hc
    refine ww_aload_n C 0 rfl dX1_meetingCount_26 ?_
    refine ww_iload_n C 1 rfl dX1_meetingCount_27 ?_
    refine ww_iload_n C 3 rfl dX1_meetingCount_28 ?_
    refine ww_iload C 4 rfl dX1_meetingCount_29 ?_
    refine ww_si (n := 4) (As := [.ref b0, .int a1, .int x3, .int x4]) (rest := []) C (c_X1_meet hb0 h) nq_532 nq_533 nq_438 nq_534 (by decide +kernel) rfl rfl ⟨Nat.le_of_ble_eq_true rfl, Nat.le_of_ble_eq_true rfl, Nat.le_of_ble_eq_true rfl, Nat.le_of_ble_eq_true rfl⟩ (Nat.le_of_ble_eq_true rfl) dX1_meetingCount_31 (fun r31 σ31 h => ?_)
    refine ww_if_eq (tgt := 40) C dX1_meetingCount_34 (by decide) (fun hc => ?_) (fun hc => ?_)
    · have h := h.1 hc
      refine ww_iinc (v := (x4 + 1)) (lv' := [(4, .int (x4 + 1)), (0, .ref b0), (1, .int a1), (2, .int x2), (3, .int x3)]) C 4 rfl dX1_meetingCount_40 rfl (by decide) rfl ?_
      refine ww_goto (tgt := 17) C dX1_meetingCount_43 (by decide) ?_
      refine ww_sub [1, 2, 3, 4, 0] rfl ?_
      exact hRc _ _ _ h
    · have h := h.2 hc
      refine ww_iinc (v := (x2 + 1)) (lv' := [(2, .int (x2 + 1)), (0, .ref b0), (1, .int a1), (3, .int x3), (4, .int x4)]) C 2 rfl dX1_meetingCount_37 rfl (by decide) rfl ?_
      refine ww_iinc (v := (x4 + 1)) (lv' := [(4, .int (x4 + 1)), (2, .int (x2 + 1)), (0, .ref b0), (1, .int a1), (3, .int x3)]) C 4 rfl dX1_meetingCount_40 rfl (by decide) rfl ?_
      refine ww_goto (tgt := 17) C dX1_meetingCount_43 (by decide) ?_
      refine ww_sub [2, 3, 1, 4, 0] rfl ?_
      exact hRc _ _ _ h
set_option maxRecDepth 100000 in
set_option maxHeartbeats 4000000 in
theorem w_X1_meetingCount_L17 {p : Program} {l : Launch} {e : Env} {s : State} {m : MethodId} {args : Array Value} {below : List Frame} {meth : Method} {c : Code} {dC : Nat → ClassId} {dI : Nat → Nat → Nat} {cA : Nat → ClassId} {A : Nat → Prop} {al : Nat → Nat} {sh : List Kd} (C : Fx p s m args c cX1_meetingCount 5 yX1_meetingCount.cls dC dI cA A al) (hr : meth.sig.returnType = some .int) (hlk : meth.locks = false) {b0 : Nat} (hb0 : isRow sh b0) {a1 : Int32} {Q : Int32 → St → Prop} {x3 : Int32} {K46 : St → Int32 → Prop} (hK46 : ∀ (σ : St) (x2 : Int32), K46 σ x2 → WW p l e (RM 3) s m args below meth c (MQ below (va_Qi Q (WPost dC dI cA al sh A) A) args s 0 0 A) dC dI cA A 5 0 0 al sh 46 [(0, .ref b0), (1, .int a1), (2, .int x2), (3, .int x3)] [] σ) : ∀ (f : Nat) (σ : St) (x2 : Int32) (x4 : Int32), m_X1_meetingCount_L17 b0 a1 Q x3 K46 f σ x2 x4 → WW p l e (RM 3) s m args below meth c (MQ below (va_Qi Q (WPost dC dI cA al sh A) A) args s 0 0 A) dC dI cA A 5 0 0 al sh 17 [(0, .ref b0), (1, .int a1), (2, .int x2), (3, .int x3), (4, .int x4)] [] σ := by
  intro f
  induction f with
  | zero => intro σ x2 x4 h; exact False.elim h
  | succ f ih => intro σ x2 x4 h; exact w_X1_meetingCount_L17b (Q := Q) (a1 := a1) C hr hlk hb0 hK46 ih h
set_option maxRecDepth 100000 in
set_option maxHeartbeats 4000000 in
theorem w_X1_meetingCount_J46 {p : Program} {l : Launch} {e : Env} {s : State} {m : MethodId} {args : Array Value} {below : List Frame} {meth : Method} {c : Code} {dC : Nat → ClassId} {dI : Nat → Nat → Nat} {cA : Nat → ClassId} {A : Nat → Prop} {al : Nat → Nat} {sh : List Kd} (C : Fx p s m args c cX1_meetingCount 5 yX1_meetingCount.cls dC dI cA A al) (hr : meth.sig.returnType = some .int) (hlk : meth.locks = false) {b0 : Nat} (hb0 : isRow sh b0) {a1 : Int32} {Q : Int32 → St → Prop} {K52 : St → Int32 → Prop} (hK52 : ∀ (σ : St) (x2 : Int32), K52 σ x2 → WW p l e (RM 3) s m args below meth c (MQ below (va_Qi Q (WPost dC dI cA al sh A) A) args s 0 0 A) dC dI cA A 5 0 0 al sh 52 [(2, .int x2)] [] σ) {Rc : St → Int32 → Int32 → Prop} (hRc : ∀ (σ : St) (x2 : Int32) (x3 : Int32), Rc σ x2 x3 → WW p l e (RM 3) s m args below meth c (MQ below (va_Qi Q (WPost dC dI cA al sh A) A) args s 0 0 A) dC dI cA A 5 0 0 al sh 4 [(0, .ref b0), (1, .int a1), (2, .int x2), (3, .int x3)] [] σ) {σ : St} {x2 : Int32} {x3 : Int32} (h : m_X1_meetingCount_J46 b0 a1 Q K52 Rc σ x2 x3) : WW p l e (RM 3) s m args below meth c (MQ below (va_Qi Q (WPost dC dI cA al sh A) A) args s 0 0 A) dC dI cA A 5 0 0 al sh 46 [(0, .ref b0), (1, .int a1), (2, .int x2), (3, .int x3)] [] σ := by
  unfold m_X1_meetingCount_J46 at h
  refine ww_iinc (v := (x3 + 1)) (lv' := [(3, .int (x3 + 1)), (0, .ref b0), (1, .int a1), (2, .int x2)]) C 3 rfl dX1_meetingCount_46 rfl (by decide) rfl ?_
  refine ww_goto (tgt := 4) C dX1_meetingCount_49 (by decide) ?_
  refine ww_sub [1, 2, 3, 0] rfl ?_
  exact hRc _ _ _ h
set_option maxRecDepth 100000 in
set_option maxHeartbeats 4000000 in
theorem w_X1_meetingCount_L4b {p : Program} {l : Launch} {e : Env} {s : State} {m : MethodId} {args : Array Value} {below : List Frame} {meth : Method} {c : Code} {dC : Nat → ClassId} {dI : Nat → Nat → Nat} {cA : Nat → ClassId} {A : Nat → Prop} {al : Nat → Nat} {sh : List Kd} (C : Fx p s m args c cX1_meetingCount 5 yX1_meetingCount.cls dC dI cA A al) (hr : meth.sig.returnType = some .int) (hlk : meth.locks = false) {b0 : Nat} (hb0 : isRow sh b0) {a1 : Int32} {Q : Int32 → St → Prop} {K52 : St → Int32 → Prop} (hK52 : ∀ (σ : St) (x2 : Int32), K52 σ x2 → WW p l e (RM 3) s m args below meth c (MQ below (va_Qi Q (WPost dC dI cA al sh A) A) args s 0 0 A) dC dI cA A 5 0 0 al sh 52 [(2, .int x2)] [] σ) {Rc : St → Int32 → Int32 → Prop} (hRc : ∀ (σ : St) (x2 : Int32) (x3 : Int32), Rc σ x2 x3 → WW p l e (RM 3) s m args below meth c (MQ below (va_Qi Q (WPost dC dI cA al sh A) A) args s 0 0 A) dC dI cA A 5 0 0 al sh 4 [(0, .ref b0), (1, .int a1), (2, .int x2), (3, .int x3)] [] σ) {σ : St} {x2 : Int32} {x3 : Int32} (h : m_X1_meetingCount_L4b b0 a1 Q K52 Rc σ x2 x3) : WW p l e (RM 3) s m args below meth c (MQ below (va_Qi Q (WPost dC dI cA al sh A) A) args s 0 0 A) dC dI cA A 5 0 0 al sh 4 [(0, .ref b0), (1, .int a1), (2, .int x2), (3, .int x3)] [] σ := by
  unfold m_X1_meetingCount_L4b at h
  refine ww_iload_n C 3 rfl dX1_meetingCount_4 ?_
  refine ww_aload_n C 0 rfl dX1_meetingCount_5 ?_
  refine ww_getIN C (row_o hb0) rfl inG4 0 (by decide) (List.mem_of_getElem? (i := 15) rfl) rfl dX1_meetingCount_6 ?_
  refine ww_icmp_ge (tgt := 52) C dX1_meetingCount_9 (by decide) (fun hc => ?_) (fun hc => ?_)
  · have h := h.1 hc
    refine ww_sub [2] rfl ?_
    exact hK52 _ _ h
  · have h := h.2 hc
    refine ww_iload_n C 3 rfl dX1_meetingCount_12 ?_
    refine ww_iconst (v := 1) C dX1_meetingCount_13 (by decide) ?_
    refine ww_iadd C dX1_meetingCount_14 ?_
    refine ww_nmI h (fun y15 h => ?_)
    refine ww_istore (lv' := [(4, .int y15), (0, .ref b0), (1, .int a1), (2, .int x2), (3, .int x3)]) C dX1_meetingCount_15 (by decide) rfl ?_
    refine ww_sub [1, 2, 3, 4, 0] rfl ?_
    obtain ⟨f, h⟩ := h
    exact w_X1_meetingCount_L17 (Q := Q) (a1 := a1) C hr hlk hb0 (fun σ x2 h => by exact w_X1_meetingCount_J46 (Q := Q) (a1 := a1) C hr hlk hb0 hK52 hRc h) f _ _ _ h
set_option maxRecDepth 100000 in
set_option maxHeartbeats 4000000 in
theorem w_X1_meetingCount_L4 {p : Program} {l : Launch} {e : Env} {s : State} {m : MethodId} {args : Array Value} {below : List Frame} {meth : Method} {c : Code} {dC : Nat → ClassId} {dI : Nat → Nat → Nat} {cA : Nat → ClassId} {A : Nat → Prop} {al : Nat → Nat} {sh : List Kd} (C : Fx p s m args c cX1_meetingCount 5 yX1_meetingCount.cls dC dI cA A al) (hr : meth.sig.returnType = some .int) (hlk : meth.locks = false) {b0 : Nat} (hb0 : isRow sh b0) {a1 : Int32} {Q : Int32 → St → Prop} {K52 : St → Int32 → Prop} (hK52 : ∀ (σ : St) (x2 : Int32), K52 σ x2 → WW p l e (RM 3) s m args below meth c (MQ below (va_Qi Q (WPost dC dI cA al sh A) A) args s 0 0 A) dC dI cA A 5 0 0 al sh 52 [(2, .int x2)] [] σ) : ∀ (f : Nat) (σ : St) (x2 : Int32) (x3 : Int32), m_X1_meetingCount_L4 b0 a1 Q K52 f σ x2 x3 → WW p l e (RM 3) s m args below meth c (MQ below (va_Qi Q (WPost dC dI cA al sh A) A) args s 0 0 A) dC dI cA A 5 0 0 al sh 4 [(0, .ref b0), (1, .int a1), (2, .int x2), (3, .int x3)] [] σ := by
  intro f
  induction f with
  | zero => intro σ x2 x3 h; exact False.elim h
  | succ f ih => intro σ x2 x3 h; exact w_X1_meetingCount_L4b (Q := Q) (a1 := a1) C hr hlk hb0 hK52 ih h
set_option maxRecDepth 100000 in
set_option maxHeartbeats 4000000 in
theorem w_X1_meetingCount_J52 {p : Program} {l : Launch} {e : Env} {s : State} {m : MethodId} {args : Array Value} {below : List Frame} {meth : Method} {c : Code} {dC : Nat → ClassId} {dI : Nat → Nat → Nat} {cA : Nat → ClassId} {A : Nat → Prop} {al : Nat → Nat} {sh : List Kd} (C : Fx p s m args c cX1_meetingCount 5 yX1_meetingCount.cls dC dI cA A al) (hr : meth.sig.returnType = some .int) (hlk : meth.locks = false) {b0 : Nat} (hb0 : isRow sh b0) {a1 : Int32} {Q : Int32 → St → Prop} {σ : St} {x2 : Int32} (h : m_X1_meetingCount_J52 b0 a1 Q σ x2) : WW p l e (RM 3) s m args below meth c (MQ below (va_Qi Q (WPost dC dI cA al sh A) A) args s 0 0 A) dC dI cA A 5 0 0 al sh 52 [(2, .int x2)] [] σ := by
  unfold m_X1_meetingCount_J52 at h
  refine ww_iload_n C 0 rfl dX1_meetingCount_52 ?_
  exact ww_iret C hr hlk h dX1_meetingCount_53
set_option maxRecDepth 100000 in
set_option maxHeartbeats 4000000 in
theorem c_X1_meetingCount {l : Launch} {dC : Nat → ClassId} {dI : Nat → Nat → Nat} {cA : Nat → ClassId} {al : Nat → Nat} {sh : List Kd} {b0 : Nat} (hb0 : isRow sh b0) {σ : St} {a1 : Int32} {Q : Int32 → St → Prop} (h : m_X1_meetingCount b0 σ a1 Q) : ∀ sz, Met l yX1_meetingCount (wd yX1_meetingCount cX1_meetingCount 5 (some .int)) (RM 3) (va_Pc ([.ref b0, .int a1].map (cv al)) (WPre dC dI cA al sh σ sz)) (va_Qi Q (WPost dC dI cA al sh (AW al sh sz)) (AW al sh sz)) 0 0 (AW al sh sz) := by
  refine ww_met (Qc := fun A => va_Qi Q (WPost dC dI cA al sh A) A) (by decide +kernel) (Nat.le_of_ble_eq_true rfl) (fun p e s m args below meth c A C hr hlk => ?_)
  show WW p l e (RM 3) s m args below meth c (MQ below (va_Qi Q (WPost dC dI cA al sh A) A) args s 0 0 A) dC dI cA A 5 0 0 al sh 0 [(0, .ref b0), (1, .int a1)] [] σ
  unfold m_X1_meetingCount at h
  refine ww_iconst (v := 0) C dX1_meetingCount_0 (by decide) ?_
  refine ww_istore_n (lv' := [(2, .int 0), (0, .ref b0), (1, .int a1)]) C dX1_meetingCount_1 rfl (by decide) rfl ?_
  refine ww_iconst (v := 0) C dX1_meetingCount_2 (by decide) ?_
  refine ww_istore_n (lv' := [(3, .int 0), (2, .int 0), (0, .ref b0), (1, .int a1)]) C dX1_meetingCount_3 rfl (by decide) rfl ?_
  refine ww_sub [2, 3, 1, 0] rfl ?_
  obtain ⟨f, h⟩ := h
  exact w_X1_meetingCount_L4 (Q := Q) (a1 := a1) C hr hlk hb0 (fun σ x2 h => by exact w_X1_meetingCount_J52 (Q := Q) (a1 := a1) C hr hlk hb0 h) f _ _ _ h
set_option maxRecDepth 100000 in
set_option maxHeartbeats 4000000 in
theorem w_X1_leastMeeting_L14b {p : Program} {l : Launch} {e : Env} {s : State} {m : MethodId} {args : Array Value} {below : List Frame} {meth : Method} {c : Code} {dC : Nat → ClassId} {dI : Nat → Nat → Nat} {cA : Nat → ClassId} {A : Nat → Prop} {al : Nat → Nat} {sh : List Kd} (C : Fx p s m args c cX1_leastMeeting 4 yX1_leastMeeting.cls dC dI cA A al) (hr : meth.sig.returnType = some .int) (hlk : meth.locks = false) {b0 : Nat} (hb0 : isRow sh b0) {a1 : Int32} {Q : Int32 → St → Prop} {x2 : Int32} {K32 : St → Int32 → Prop} (hK32 : ∀ (σ : St) (x3 : Int32), K32 σ x3 → WW p l e (RM 3) s m args below meth c (MQ below (va_Qi Q (WPost dC dI cA al sh A) A) args s 0 0 A) dC dI cA A 4 0 0 al sh 32 [(2, .int x2), (3, .int x3)] [] σ) {K45 : St → Prop} (hK45 : ∀ (σ : St), K45 σ → WW p l e (RM 3) s m args below meth c (MQ below (va_Qi Q (WPost dC dI cA al sh A) A) args s 0 0 A) dC dI cA A 4 0 0 al sh 45 [(0, .ref b0), (1, .int a1), (2, .int x2)] [] σ) {Rc : St → Int32 → Prop} (hRc : ∀ (σ : St) (x3 : Int32), Rc σ x3 → WW p l e (RM 3) s m args below meth c (MQ below (va_Qi Q (WPost dC dI cA al sh A) A) args s 0 0 A) dC dI cA A 4 0 0 al sh 14 [(0, .ref b0), (1, .int a1), (2, .int x2), (3, .int x3)] [] σ) {σ : St} {x3 : Int32} (h : m_X1_leastMeeting_L14b b0 a1 Q x2 K32 K45 Rc σ x3) : WW p l e (RM 3) s m args below meth c (MQ below (va_Qi Q (WPost dC dI cA al sh A) A) args s 0 0 A) dC dI cA A 4 0 0 al sh 14 [(0, .ref b0), (1, .int a1), (2, .int x2), (3, .int x3)] [] σ := by
  unfold m_X1_leastMeeting_L14b at h
  refine ww_iload_n C 3 rfl dX1_leastMeeting_14 ?_
  refine ww_aload_n C 0 rfl dX1_leastMeeting_15 ?_
  refine ww_getIN C (row_o hb0) rfl inG4 0 (by decide) (List.mem_of_getElem? (i := 15) rfl) rfl dX1_leastMeeting_16 ?_
  refine ww_icmp_ge (tgt := 45) C dX1_leastMeeting_19 (by decide) (fun hc => ?_) (fun hc => ?_)
  · have h := h.1 hc
    refine ww_sub [0, 1, 2] rfl ?_
    exact hK45 _ h
  · have h := h.2 hc
    refine ww_aload_n C 0 rfl dX1_leastMeeting_22 ?_
    refine ww_iload_n C 1 rfl dX1_leastMeeting_23 ?_
    refine ww_iload_n C 2 rfl dX1_leastMeeting_24 ?_
    refine ww_iload_n C 3 rfl dX1_leastMeeting_25 ?_
    refine ww_si (n := 4) (As := [.ref b0, .int a1, .int x2, .int x3]) (rest := []) C (c_X1_meet hb0 h) nq_532 nq_533 nq_438 nq_534 (by decide +kernel) rfl rfl ⟨Nat.le_of_ble_eq_true rfl, Nat.le_of_ble_eq_true rfl, Nat.le_of_ble_eq_true rfl, Nat.le_of_ble_eq_true rfl⟩ (Nat.le_of_ble_eq_true rfl) dX1_leastMeeting_26 (fun r26 σ26 h => ?_)
    refine ww_if_eq (tgt := 39) C dX1_leastMeeting_29 (by decide) (fun hc => ?_) (fun hc => ?_)
    · have h := h.1 hc
      refine ww_iinc (v := (x3 + 1)) (lv' := [(3, .int (x3 + 1)), (0, .ref b0), (1, .int a1), (2, .int x2)]) C 3 rfl dX1_leastMeeting_39 rfl (by decide) rfl ?_
      refine ww_goto (tgt := 14) C dX1_leastMeeting_42 (by decide) ?_
      refine ww_sub [1, 2, 3, 0] rfl ?_
      exact hRc _ _ h
    · have h := h.2 hc
      refine ww_sub [2, 3] rfl ?_
      exact hK32 _ _ h
set_option maxRecDepth 100000 in
set_option maxHeartbeats 4000000 in
theorem w_X1_leastMeeting_L14 {p : Program} {l : Launch} {e : Env} {s : State} {m : MethodId} {args : Array Value} {below : List Frame} {meth : Method} {c : Code} {dC : Nat → ClassId} {dI : Nat → Nat → Nat} {cA : Nat → ClassId} {A : Nat → Prop} {al : Nat → Nat} {sh : List Kd} (C : Fx p s m args c cX1_leastMeeting 4 yX1_leastMeeting.cls dC dI cA A al) (hr : meth.sig.returnType = some .int) (hlk : meth.locks = false) {b0 : Nat} (hb0 : isRow sh b0) {a1 : Int32} {Q : Int32 → St → Prop} {x2 : Int32} {K32 : St → Int32 → Prop} (hK32 : ∀ (σ : St) (x3 : Int32), K32 σ x3 → WW p l e (RM 3) s m args below meth c (MQ below (va_Qi Q (WPost dC dI cA al sh A) A) args s 0 0 A) dC dI cA A 4 0 0 al sh 32 [(2, .int x2), (3, .int x3)] [] σ) {K45 : St → Prop} (hK45 : ∀ (σ : St), K45 σ → WW p l e (RM 3) s m args below meth c (MQ below (va_Qi Q (WPost dC dI cA al sh A) A) args s 0 0 A) dC dI cA A 4 0 0 al sh 45 [(0, .ref b0), (1, .int a1), (2, .int x2)] [] σ) : ∀ (f : Nat) (σ : St) (x3 : Int32), m_X1_leastMeeting_L14 b0 a1 Q x2 K32 K45 f σ x3 → WW p l e (RM 3) s m args below meth c (MQ below (va_Qi Q (WPost dC dI cA al sh A) A) args s 0 0 A) dC dI cA A 4 0 0 al sh 14 [(0, .ref b0), (1, .int a1), (2, .int x2), (3, .int x3)] [] σ := by
  intro f
  induction f with
  | zero => intro σ x3 h; exact False.elim h
  | succ f ih => intro σ x3 h; exact w_X1_leastMeeting_L14b (Q := Q) (a1 := a1) C hr hlk hb0 hK32 hK45 ih h
set_option maxRecDepth 100000 in
set_option maxHeartbeats 4000000 in
theorem w_X1_leastMeeting_J32 {p : Program} {l : Launch} {e : Env} {s : State} {m : MethodId} {args : Array Value} {below : List Frame} {meth : Method} {c : Code} {dC : Nat → ClassId} {dI : Nat → Nat → Nat} {cA : Nat → ClassId} {A : Nat → Prop} {al : Nat → Nat} {sh : List Kd} (C : Fx p s m args c cX1_leastMeeting 4 yX1_leastMeeting.cls dC dI cA A al) (hr : meth.sig.returnType = some .int) (hlk : meth.locks = false) {b0 : Nat} (hb0 : isRow sh b0) {a1 : Int32} {Q : Int32 → St → Prop} {K51 : St → Prop} (hK51 : ∀ (σ : St), K51 σ → WW p l e (RM 3) s m args below meth c (MQ below (va_Qi Q (WPost dC dI cA al sh A) A) args s 0 0 A) dC dI cA A 4 0 0 al sh 51 [] [] σ) {Rc : St → Int32 → Prop} (hRc : ∀ (σ : St) (x2 : Int32), Rc σ x2 → WW p l e (RM 3) s m args below meth c (MQ below (va_Qi Q (WPost dC dI cA al sh A) A) args s 0 0 A) dC dI cA A 4 0 0 al sh 2 [(0, .ref b0), (1, .int a1), (2, .int x2)] [] σ) {σ : St} {x2 : Int32} {x3 : Int32} (h : m_X1_leastMeeting_J32 b0 a1 Q K51 Rc σ x2 x3) : WW p l e (RM 3) s m args below meth c (MQ below (va_Qi Q (WPost dC dI cA al sh A) A) args s 0 0 A) dC dI cA A 4 0 0 al sh 32 [(2, .int x2), (3, .int x3)] [] σ := by
  unfold m_X1_leastMeeting_J32 at h
  refine ww_bipush (v := 100) C dX1_leastMeeting_32 (by decide) ?_
  refine ww_iload_n C 0 rfl dX1_leastMeeting_34 ?_
  refine ww_imul C dX1_leastMeeting_35 ?_
  refine ww_iload_n C 1 rfl dX1_leastMeeting_36 ?_
  refine ww_iadd C dX1_leastMeeting_37 ?_
  exact ww_iret C hr hlk h dX1_leastMeeting_38
set_option maxRecDepth 100000 in
set_option maxHeartbeats 4000000 in
theorem w_X1_leastMeeting_J45 {p : Program} {l : Launch} {e : Env} {s : State} {m : MethodId} {args : Array Value} {below : List Frame} {meth : Method} {c : Code} {dC : Nat → ClassId} {dI : Nat → Nat → Nat} {cA : Nat → ClassId} {A : Nat → Prop} {al : Nat → Nat} {sh : List Kd} (C : Fx p s m args c cX1_leastMeeting 4 yX1_leastMeeting.cls dC dI cA A al) (hr : meth.sig.returnType = some .int) (hlk : meth.locks = false) {b0 : Nat} (hb0 : isRow sh b0) {a1 : Int32} {Q : Int32 → St → Prop} {K51 : St → Prop} (hK51 : ∀ (σ : St), K51 σ → WW p l e (RM 3) s m args below meth c (MQ below (va_Qi Q (WPost dC dI cA al sh A) A) args s 0 0 A) dC dI cA A 4 0 0 al sh 51 [] [] σ) {Rc : St → Int32 → Prop} (hRc : ∀ (σ : St) (x2 : Int32), Rc σ x2 → WW p l e (RM 3) s m args below meth c (MQ below (va_Qi Q (WPost dC dI cA al sh A) A) args s 0 0 A) dC dI cA A 4 0 0 al sh 2 [(0, .ref b0), (1, .int a1), (2, .int x2)] [] σ) {σ : St} {x2 : Int32} (h : m_X1_leastMeeting_J45 b0 a1 Q K51 Rc σ x2) : WW p l e (RM 3) s m args below meth c (MQ below (va_Qi Q (WPost dC dI cA al sh A) A) args s 0 0 A) dC dI cA A 4 0 0 al sh 45 [(0, .ref b0), (1, .int a1), (2, .int x2)] [] σ := by
  unfold m_X1_leastMeeting_J45 at h
  refine ww_iinc (v := (x2 + 1)) (lv' := [(2, .int (x2 + 1)), (0, .ref b0), (1, .int a1)]) C 2 rfl dX1_leastMeeting_45 rfl (by decide) rfl ?_
  refine ww_goto (tgt := 2) C dX1_leastMeeting_48 (by decide) ?_
  refine ww_sub [1, 2, 0] rfl ?_
  exact hRc _ _ h
set_option maxRecDepth 100000 in
set_option maxHeartbeats 4000000 in
theorem w_X1_leastMeeting_L2b {p : Program} {l : Launch} {e : Env} {s : State} {m : MethodId} {args : Array Value} {below : List Frame} {meth : Method} {c : Code} {dC : Nat → ClassId} {dI : Nat → Nat → Nat} {cA : Nat → ClassId} {A : Nat → Prop} {al : Nat → Nat} {sh : List Kd} (C : Fx p s m args c cX1_leastMeeting 4 yX1_leastMeeting.cls dC dI cA A al) (hr : meth.sig.returnType = some .int) (hlk : meth.locks = false) {b0 : Nat} (hb0 : isRow sh b0) {a1 : Int32} {Q : Int32 → St → Prop} {K51 : St → Prop} (hK51 : ∀ (σ : St), K51 σ → WW p l e (RM 3) s m args below meth c (MQ below (va_Qi Q (WPost dC dI cA al sh A) A) args s 0 0 A) dC dI cA A 4 0 0 al sh 51 [] [] σ) {Rc : St → Int32 → Prop} (hRc : ∀ (σ : St) (x2 : Int32), Rc σ x2 → WW p l e (RM 3) s m args below meth c (MQ below (va_Qi Q (WPost dC dI cA al sh A) A) args s 0 0 A) dC dI cA A 4 0 0 al sh 2 [(0, .ref b0), (1, .int a1), (2, .int x2)] [] σ) {σ : St} {x2 : Int32} (h : m_X1_leastMeeting_L2b b0 a1 Q K51 Rc σ x2) : WW p l e (RM 3) s m args below meth c (MQ below (va_Qi Q (WPost dC dI cA al sh A) A) args s 0 0 A) dC dI cA A 4 0 0 al sh 2 [(0, .ref b0), (1, .int a1), (2, .int x2)] [] σ := by
  unfold m_X1_leastMeeting_L2b at h
  refine ww_iload_n C 2 rfl dX1_leastMeeting_2 ?_
  refine ww_aload_n C 0 rfl dX1_leastMeeting_3 ?_
  refine ww_getIN C (row_o hb0) rfl inG4 0 (by decide) (List.mem_of_getElem? (i := 15) rfl) rfl dX1_leastMeeting_4 ?_
  refine ww_icmp_ge (tgt := 51) C dX1_leastMeeting_7 (by decide) (fun hc => ?_) (fun hc => ?_)
  · have h := h.1 hc
    refine ww_sub [] rfl ?_
    exact hK51 _ h
  · have h := h.2 hc
    refine ww_iload_n C 2 rfl dX1_leastMeeting_10 ?_
    refine ww_iconst (v := 1) C dX1_leastMeeting_11 (by decide) ?_
    refine ww_iadd C dX1_leastMeeting_12 ?_
    refine ww_nmI h (fun y13 h => ?_)
    refine ww_istore_n (lv' := [(3, .int y13), (0, .ref b0), (1, .int a1), (2, .int x2)]) C dX1_leastMeeting_13 rfl (by decide) rfl ?_
    refine ww_sub [1, 2, 3, 0] rfl ?_
    obtain ⟨f, h⟩ := h
    exact w_X1_leastMeeting_L14 (Q := Q) (a1 := a1) C hr hlk hb0 (fun σ x3 h => by exact w_X1_leastMeeting_J32 (Q := Q) (a1 := a1) C hr hlk hb0 hK51 hRc h) (fun σ h => by exact w_X1_leastMeeting_J45 (Q := Q) (a1 := a1) C hr hlk hb0 hK51 hRc h) f _ _ h
set_option maxRecDepth 100000 in
set_option maxHeartbeats 4000000 in
theorem w_X1_leastMeeting_L2 {p : Program} {l : Launch} {e : Env} {s : State} {m : MethodId} {args : Array Value} {below : List Frame} {meth : Method} {c : Code} {dC : Nat → ClassId} {dI : Nat → Nat → Nat} {cA : Nat → ClassId} {A : Nat → Prop} {al : Nat → Nat} {sh : List Kd} (C : Fx p s m args c cX1_leastMeeting 4 yX1_leastMeeting.cls dC dI cA A al) (hr : meth.sig.returnType = some .int) (hlk : meth.locks = false) {b0 : Nat} (hb0 : isRow sh b0) {a1 : Int32} {Q : Int32 → St → Prop} {K51 : St → Prop} (hK51 : ∀ (σ : St), K51 σ → WW p l e (RM 3) s m args below meth c (MQ below (va_Qi Q (WPost dC dI cA al sh A) A) args s 0 0 A) dC dI cA A 4 0 0 al sh 51 [] [] σ) : ∀ (f : Nat) (σ : St) (x2 : Int32), m_X1_leastMeeting_L2 b0 a1 Q K51 f σ x2 → WW p l e (RM 3) s m args below meth c (MQ below (va_Qi Q (WPost dC dI cA al sh A) A) args s 0 0 A) dC dI cA A 4 0 0 al sh 2 [(0, .ref b0), (1, .int a1), (2, .int x2)] [] σ := by
  intro f
  induction f with
  | zero => intro σ x2 h; exact False.elim h
  | succ f ih => intro σ x2 h; exact w_X1_leastMeeting_L2b (Q := Q) (a1 := a1) C hr hlk hb0 hK51 ih h
set_option maxRecDepth 100000 in
set_option maxHeartbeats 4000000 in
theorem w_X1_leastMeeting_J51 {p : Program} {l : Launch} {e : Env} {s : State} {m : MethodId} {args : Array Value} {below : List Frame} {meth : Method} {c : Code} {dC : Nat → ClassId} {dI : Nat → Nat → Nat} {cA : Nat → ClassId} {A : Nat → Prop} {al : Nat → Nat} {sh : List Kd} (C : Fx p s m args c cX1_leastMeeting 4 yX1_leastMeeting.cls dC dI cA A al) (hr : meth.sig.returnType = some .int) (hlk : meth.locks = false) {b0 : Nat} (hb0 : isRow sh b0) {a1 : Int32} {Q : Int32 → St → Prop} {σ : St} (h : m_X1_leastMeeting_J51 b0 a1 Q σ) : WW p l e (RM 3) s m args below meth c (MQ below (va_Qi Q (WPost dC dI cA al sh A) A) args s 0 0 A) dC dI cA A 4 0 0 al sh 51 [] [] σ := by
  unfold m_X1_leastMeeting_J51 at h
  refine ww_bipush (v := -9) C dX1_leastMeeting_51 (by decide) ?_
  exact ww_iret C hr hlk h dX1_leastMeeting_53
set_option maxRecDepth 100000 in
set_option maxHeartbeats 4000000 in
theorem c_X1_leastMeeting {l : Launch} {dC : Nat → ClassId} {dI : Nat → Nat → Nat} {cA : Nat → ClassId} {al : Nat → Nat} {sh : List Kd} {b0 : Nat} (hb0 : isRow sh b0) {σ : St} {a1 : Int32} {Q : Int32 → St → Prop} (h : m_X1_leastMeeting b0 σ a1 Q) : ∀ sz, Met l yX1_leastMeeting (wd yX1_leastMeeting cX1_leastMeeting 4 (some .int)) (RM 3) (va_Pc ([.ref b0, .int a1].map (cv al)) (WPre dC dI cA al sh σ sz)) (va_Qi Q (WPost dC dI cA al sh (AW al sh sz)) (AW al sh sz)) 0 0 (AW al sh sz) := by
  refine ww_met (Qc := fun A => va_Qi Q (WPost dC dI cA al sh A) A) (by decide +kernel) (Nat.le_of_ble_eq_true rfl) (fun p e s m args below meth c A C hr hlk => ?_)
  show WW p l e (RM 3) s m args below meth c (MQ below (va_Qi Q (WPost dC dI cA al sh A) A) args s 0 0 A) dC dI cA A 4 0 0 al sh 0 [(0, .ref b0), (1, .int a1)] [] σ
  unfold m_X1_leastMeeting at h
  refine ww_iconst (v := 0) C dX1_leastMeeting_0 (by decide) ?_
  refine ww_istore_n (lv' := [(2, .int 0), (0, .ref b0), (1, .int a1)]) C dX1_leastMeeting_1 rfl (by decide) rfl ?_
  refine ww_sub [1, 2, 0] rfl ?_
  obtain ⟨f, h⟩ := h
  exact w_X1_leastMeeting_L2 (Q := Q) (a1 := a1) C hr hlk hb0 (fun σ h => by exact w_X1_leastMeeting_J51 (Q := Q) (a1 := a1) C hr hlk hb0 h) f _ _ h
