set_option maxRecDepth 100000 in
set_option maxHeartbeats 4000000 in
theorem c_X9_many {l : Launch} {dC : Nat → ClassId} {dI : Nat → Nat → Nat} {cA : Nat → ClassId} {al : Nat → Nat} {sh : List Kd} (hs : ShC sh) {σ : St} {a1 : Int32} {Q : Int32 → St → Prop} (h : m_X9_many σ a1 Q) : ∀ sz, Met l yX9_many (wd yX9_many cX9_many 2 (some .int)) (RM 0) (va_Pc ([.ref 61, .int a1].map (cv al)) (WPre dC dI cA al sh σ sz)) (va_Qi Q (WPost dC dI cA al sh (AW al sh sz)) (AW al sh sz)) 0 0 (AW al sh sz) := by
  refine ww_met (Qc := fun A => va_Qi Q (WPost dC dI cA al sh A) A) (by decide +kernel) (Nat.le_of_ble_eq_true rfl) (fun p e s m args below meth c A C hr hlk => ?_)
  show WW p l e (RM 0) s m args below meth c (MQ below (va_Qi Q (WPost dC dI cA al sh A) A) args s 0 0 A) dC dI cA A 2 0 0 al sh 0 [(0, .ref 61), (1, .int a1)] [] σ
  unfold m_X9_many at h
  refine ww_aload_n C 0 rfl dX9_many_0 ?_
  refine ww_getR C (shc_61 hs) rfl inG9 4 (by decide) nq_123 rfl dX9_many_1 ?_
  refine ww_bipush (v := 21) C dX9_many_4 (by decide) ?_
  refine ww_iload_n C 1 rfl dX9_many_6 ?_
  refine ww_imul C dX9_many_7 ?_
  refine ww_iald C (shc_64 hs) h.1 dX9_many_8 ?_
  have h := h.2
  exact ww_iret C hr hlk h dX9_many_9
set_option maxRecDepth 100000 in
set_option maxHeartbeats 4000000 in
theorem c_X9_threadAt {l : Launch} {dC : Nat → ClassId} {dI : Nat → Nat → Nat} {cA : Nat → ClassId} {al : Nat → Nat} {sh : List Kd} (hs : ShC sh) {σ : St} {a1 : Int32} {a2 : Int32} {Q : Int32 → St → Prop} (h : m_X9_threadAt σ a1 a2 Q) : ∀ sz, Met l yX9_threadAt (wd yX9_threadAt cX9_threadAt 3 (some .int)) (RM 0) (va_Pc ([.ref 61, .int a1, .int a2].map (cv al)) (WPre dC dI cA al sh σ sz)) (va_Qi Q (WPost dC dI cA al sh (AW al sh sz)) (AW al sh sz)) 0 0 (AW al sh sz) := by
  refine ww_met (Qc := fun A => va_Qi Q (WPost dC dI cA al sh A) A) (by decide +kernel) (Nat.le_of_ble_eq_true rfl) (fun p e s m args below meth c A C hr hlk => ?_)
  show WW p l e (RM 0) s m args below meth c (MQ below (va_Qi Q (WPost dC dI cA al sh A) A) args s 0 0 A) dC dI cA A 3 0 0 al sh 0 [(0, .ref 61), (1, .int a1), (2, .int a2)] [] σ
  unfold m_X9_threadAt at h
  refine ww_aload_n C 0 rfl dX9_threadAt_0 ?_
  refine ww_getR C (shc_61 hs) rfl inG9 4 (by decide) nq_123 rfl dX9_threadAt_1 ?_
  refine ww_bipush (v := 21) C dX9_threadAt_4 (by decide) ?_
  refine ww_iload_n C 1 rfl dX9_threadAt_6 ?_
  refine ww_imul C dX9_threadAt_7 ?_
  refine ww_iconst (v := 1) C dX9_threadAt_8 (by decide) ?_
  refine ww_iadd C dX9_threadAt_9 ?_
  refine ww_iload_n C 2 rfl dX9_threadAt_10 ?_
  refine ww_iadd C dX9_threadAt_11 ?_
  refine ww_iald C (shc_64 hs) h.1 dX9_threadAt_12 ?_
  have h := h.2
  refine ww_bipush (v := 100) C dX9_threadAt_13 (by decide) ?_
  refine ww_idiv C dX9_threadAt_15 (by decide) ?_
  exact ww_iret C hr hlk h dX9_threadAt_16
set_option maxRecDepth 100000 in
set_option maxHeartbeats 4000000 in
theorem c_X9_signAt {l : Launch} {dC : Nat → ClassId} {dI : Nat → Nat → Nat} {cA : Nat → ClassId} {al : Nat → Nat} {sh : List Kd} (hs : ShC sh) {σ : St} {a1 : Int32} {a2 : Int32} {Q : Int32 → St → Prop} (h : m_X9_signAt σ a1 a2 Q) : ∀ sz, Met l yX9_signAt (wd yX9_signAt cX9_signAt 3 (some .int)) (RM 0) (va_Pc ([.ref 61, .int a1, .int a2].map (cv al)) (WPre dC dI cA al sh σ sz)) (va_Qi Q (WPost dC dI cA al sh (AW al sh sz)) (AW al sh sz)) 0 0 (AW al sh sz) := by
  refine ww_met (Qc := fun A => va_Qi Q (WPost dC dI cA al sh A) A) (by decide +kernel) (Nat.le_of_ble_eq_true rfl) (fun p e s m args below meth c A C hr hlk => ?_)
  show WW p l e (RM 0) s m args below meth c (MQ below (va_Qi Q (WPost dC dI cA al sh A) A) args s 0 0 A) dC dI cA A 3 0 0 al sh 0 [(0, .ref 61), (1, .int a1), (2, .int a2)] [] σ
  unfold m_X9_signAt at h
  refine ww_aload_n C 0 rfl dX9_signAt_0 ?_
  refine ww_getR C (shc_61 hs) rfl inG9 4 (by decide) nq_123 rfl dX9_signAt_1 ?_
  refine ww_bipush (v := 21) C dX9_signAt_4 (by decide) ?_
  refine ww_iload_n C 1 rfl dX9_signAt_6 ?_
  refine ww_imul C dX9_signAt_7 ?_
  refine ww_iconst (v := 1) C dX9_signAt_8 (by decide) ?_
  refine ww_iadd C dX9_signAt_9 ?_
  refine ww_iload_n C 2 rfl dX9_signAt_10 ?_
  refine ww_iadd C dX9_signAt_11 ?_
  refine ww_iald C (shc_64 hs) h.1 dX9_signAt_12 ?_
  have h := h.2
  refine ww_bipush (v := 10) C dX9_signAt_13 (by decide) ?_
  refine ww_idiv C dX9_signAt_15 (by decide) ?_
  refine ww_bipush (v := 10) C dX9_signAt_16 (by decide) ?_
  refine ww_irem C dX9_signAt_18 (by decide) ?_
  exact ww_iret C hr hlk h dX9_signAt_19
set_option maxRecDepth 100000 in
set_option maxHeartbeats 4000000 in
theorem c_X9_aboutAt {l : Launch} {dC : Nat → ClassId} {dI : Nat → Nat → Nat} {cA : Nat → ClassId} {al : Nat → Nat} {sh : List Kd} (hs : ShC sh) {σ : St} {a1 : Int32} {a2 : Int32} {Q : Int32 → St → Prop} (h : m_X9_aboutAt σ a1 a2 Q) : ∀ sz, Met l yX9_aboutAt (wd yX9_aboutAt cX9_aboutAt 3 (some .int)) (RM 0) (va_Pc ([.ref 61, .int a1, .int a2].map (cv al)) (WPre dC dI cA al sh σ sz)) (va_Qi Q (WPost dC dI cA al sh (AW al sh sz)) (AW al sh sz)) 0 0 (AW al sh sz) := by
  refine ww_met (Qc := fun A => va_Qi Q (WPost dC dI cA al sh A) A) (by decide +kernel) (Nat.le_of_ble_eq_true rfl) (fun p e s m args below meth c A C hr hlk => ?_)
  show WW p l e (RM 0) s m args below meth c (MQ below (va_Qi Q (WPost dC dI cA al sh A) A) args s 0 0 A) dC dI cA A 3 0 0 al sh 0 [(0, .ref 61), (1, .int a1), (2, .int a2)] [] σ
  unfold m_X9_aboutAt at h
  refine ww_aload_n C 0 rfl dX9_aboutAt_0 ?_
  refine ww_getR C (shc_61 hs) rfl inG9 4 (by decide) nq_123 rfl dX9_aboutAt_1 ?_
  refine ww_bipush (v := 21) C dX9_aboutAt_4 (by decide) ?_
  refine ww_iload_n C 1 rfl dX9_aboutAt_6 ?_
  refine ww_imul C dX9_aboutAt_7 ?_
  refine ww_iconst (v := 1) C dX9_aboutAt_8 (by decide) ?_
  refine ww_iadd C dX9_aboutAt_9 ?_
  refine ww_iload_n C 2 rfl dX9_aboutAt_10 ?_
  refine ww_iadd C dX9_aboutAt_11 ?_
  refine ww_iald C (shc_64 hs) h.1 dX9_aboutAt_12 ?_
  have h := h.2
  refine ww_bipush (v := 10) C dX9_aboutAt_13 (by decide) ?_
  refine ww_irem C dX9_aboutAt_15 (by decide) ?_
  exact ww_iret C hr hlk h dX9_aboutAt_16
set_option maxRecDepth 100000 in
set_option maxHeartbeats 4000000 in
theorem c_X9_isTouch {l : Launch} {dC : Nat → ClassId} {dI : Nat → Nat → Nat} {cA : Nat → ClassId} {al : Nat → Nat} {sh : List Kd} (hs : ShC sh) {σ : St} {a1 : Int32} {a2 : Int32} {Q : Int32 → St → Prop} (h : m_X9_isTouch σ a1 a2 Q) : ∀ sz, Met l yX9_isTouch (wd yX9_isTouch cX9_isTouch 3 (some .boolean)) (RM 1) (va_Pc ([.ref 61, .int a1, .int a2].map (cv al)) (WPre dC dI cA al sh σ sz)) (va_Qi Q (WPost dC dI cA al sh (AW al sh sz)) (AW al sh sz)) 0 0 (AW al sh sz) := by
  refine ww_met (Qc := fun A => va_Qi Q (WPost dC dI cA al sh A) A) (by decide +kernel) (Nat.le_of_ble_eq_true rfl) (fun p e s m args below meth c A C hr hlk => ?_)
  show WW p l e (RM 1) s m args below meth c (MQ below (va_Qi Q (WPost dC dI cA al sh A) A) args s 0 0 A) dC dI cA A 3 0 0 al sh 0 [(0, .ref 61), (1, .int a1), (2, .int a2)] [] σ
  unfold m_X9_isTouch at h
  refine ww_aload_n C 0 rfl dX9_isTouch_0 ?_
  refine ww_iload_n C 1 rfl dX9_isTouch_1 ?_
  refine ww_iload_n C 2 rfl dX9_isTouch_2 ?_
  refine ww_vi (n := 2) (As := [.int a1, .int a2]) (rest := []) C (c_X9_signAt hs h) (shc_61 hs) rfl nq_331 nq_332 nq_333 nq_5 nq_334 (by decide +kernel) rfl rfl ⟨Nat.le_of_ble_eq_true rfl, Nat.le_of_ble_eq_true rfl, Nat.le_of_ble_eq_true rfl, Nat.le_of_ble_eq_true rfl⟩ (Nat.le_of_ble_eq_true rfl) dX9_isTouch_3 (fun r3 σ3 h => ?_)
  refine ww_iconst (v := 3) C dX9_isTouch_6 (by decide) ?_
  refine ww_icmp_eq (tgt := 20) C dX9_isTouch_7 (by decide) (fun hc => ?_) (fun hc => ?_)
  · have h := h.1 hc
    refine ww_iconst (v := 1) C dX9_isTouch_20 (by decide) ?_
    refine ww_goto (tgt := 25) C dX9_isTouch_21 (by decide) ?_
    exact ww_zret C hr hlk (by decide) h dX9_isTouch_25
  · have h := h.2 hc
    refine ww_aload_n C 0 rfl dX9_isTouch_10 ?_
    refine ww_iload_n C 1 rfl dX9_isTouch_11 ?_
    refine ww_iload_n C 2 rfl dX9_isTouch_12 ?_
    refine ww_vi (n := 2) (As := [.int a1, .int a2]) (rest := []) C (c_X9_signAt hs h) (shc_61 hs) rfl nq_331 nq_332 nq_333 nq_5 nq_334 (by decide +kernel) rfl rfl ⟨Nat.le_of_ble_eq_true rfl, Nat.le_of_ble_eq_true rfl, Nat.le_of_ble_eq_true rfl, Nat.le_of_ble_eq_true rfl⟩ (Nat.le_of_ble_eq_true rfl) dX9_isTouch_13 (fun r13 σ13 h => ?_)
    refine ww_iconst (v := 4) C dX9_isTouch_16 (by decide) ?_
    refine ww_icmp_ne (tgt := 24) C dX9_isTouch_17 (by decide) (fun hc => ?_) (fun hc => ?_)
    · have h := h.1 hc
      refine ww_iconst (v := 0) C dX9_isTouch_24 (by decide) ?_
      exact ww_zret C hr hlk (by decide) h dX9_isTouch_25
    · have h := h.2 hc
      refine ww_iconst (v := 1) C dX9_isTouch_20 (by decide) ?_
      refine ww_goto (tgt := 25) C dX9_isTouch_21 (by decide) ?_
      exact ww_zret C hr hlk (by decide) h dX9_isTouch_25
set_option maxRecDepth 100000 in
set_option maxHeartbeats 4000000 in
theorem c_X9_isTouchOf {l : Launch} {dC : Nat → ClassId} {dI : Nat → Nat → Nat} {cA : Nat → ClassId} {al : Nat → Nat} {sh : List Kd} (hs : ShC sh) {σ : St} {a1 : Int32} {a2 : Int32} {a3 : Int32} {Q : Int32 → St → Prop} (h : m_X9_isTouchOf σ a1 a2 a3 Q) : ∀ sz, Met l yX9_isTouchOf (wd yX9_isTouchOf cX9_isTouchOf 4 (some .boolean)) (RM 2) (va_Pc ([.ref 61, .int a1, .int a2, .int a3].map (cv al)) (WPre dC dI cA al sh σ sz)) (va_Qi Q (WPost dC dI cA al sh (AW al sh sz)) (AW al sh sz)) 0 0 (AW al sh sz) := by
  refine ww_met (Qc := fun A => va_Qi Q (WPost dC dI cA al sh A) A) (by decide +kernel) (Nat.le_of_ble_eq_true rfl) (fun p e s m args below meth c A C hr hlk => ?_)
  show WW p l e (RM 2) s m args below meth c (MQ below (va_Qi Q (WPost dC dI cA al sh A) A) args s 0 0 A) dC dI cA A 4 0 0 al sh 0 [(0, .ref 61), (1, .int a1), (2, .int a2), (3, .int a3)] [] σ
  unfold m_X9_isTouchOf at h
  refine ww_aload_n C 0 rfl dX9_isTouchOf_0 ?_
  refine ww_iload_n C 1 rfl dX9_isTouchOf_1 ?_
  refine ww_iload_n C 2 rfl dX9_isTouchOf_2 ?_
  refine ww_vi (n := 2) (As := [.int a1, .int a2]) (rest := []) C (c_X9_isTouch hs h) (shc_61 hs) rfl nq_493 nq_494 nq_495 nq_5 nq_496 (by decide +kernel) rfl rfl ⟨Nat.le_of_ble_eq_true rfl, Nat.le_of_ble_eq_true rfl, Nat.le_of_ble_eq_true rfl, Nat.le_of_ble_eq_true rfl⟩ (Nat.le_of_ble_eq_true rfl) dX9_isTouchOf_3 (fun r3 σ3 h => ?_)
  refine ww_if_eq (tgt := 23) C dX9_isTouchOf_6 (by decide) (fun hc => ?_) (fun hc => ?_)
  · have h := h.1 hc
    refine ww_iconst (v := 0) C dX9_isTouchOf_23 (by decide) ?_
    exact ww_zret C hr hlk (by decide) h dX9_isTouchOf_24
  · have h := h.2 hc
    refine ww_aload_n C 0 rfl dX9_isTouchOf_9 ?_
    refine ww_iload_n C 1 rfl dX9_isTouchOf_10 ?_
    refine ww_iload_n C 2 rfl dX9_isTouchOf_11 ?_
    refine ww_vi (n := 2) (As := [.int a1, .int a2]) (rest := []) C (c_X9_aboutAt hs h) (shc_61 hs) rfl nq_335 nq_336 nq_337 nq_5 nq_338 (by decide +kernel) rfl rfl ⟨Nat.le_of_ble_eq_true rfl, Nat.le_of_ble_eq_true rfl, Nat.le_of_ble_eq_true rfl, Nat.le_of_ble_eq_true rfl⟩ (Nat.le_of_ble_eq_true rfl) dX9_isTouchOf_12 (fun r12 σ12 h => ?_)
    refine ww_iload_n C 3 rfl dX9_isTouchOf_15 ?_
    refine ww_icmp_ne (tgt := 23) C dX9_isTouchOf_16 (by decide) (fun hc => ?_) (fun hc => ?_)
    · have h := h.1 hc
      refine ww_iconst (v := 0) C dX9_isTouchOf_23 (by decide) ?_
      exact ww_zret C hr hlk (by decide) h dX9_isTouchOf_24
    · have h := h.2 hc
      refine ww_iconst (v := 1) C dX9_isTouchOf_19 (by decide) ?_
      refine ww_goto (tgt := 24) C dX9_isTouchOf_20 (by decide) ?_
      exact ww_zret C hr hlk (by decide) h dX9_isTouchOf_24
set_option maxRecDepth 100000 in
set_option maxHeartbeats 4000000 in
theorem w_X9_isTrace_J64 {p : Program} {l : Launch} {e : Env} {s : State} {m : MethodId} {args : Array Value} {below : List Frame} {meth : Method} {c : Code} {dC : Nat → ClassId} {dI : Nat → Nat → Nat} {cA : Nat → ClassId} {A : Nat → Prop} {al : Nat → Nat} {sh : List Kd} (C : Fx p s m args c cX9_isTrace 5 yX9_isTrace.cls dC dI cA A al) (hr : meth.sig.returnType = some .boolean) (hlk : meth.locks = false) (hs : ShC sh) {a1 : Int32} {Q : Int32 → St → Prop} {K93 : St → Int32 → Prop} (hK93 : ∀ (σ : St) (x2 : Int32), K93 σ x2 → WW p l e (RM 3) s m args below meth c (MQ below (va_Qi Q (WPost dC dI cA al sh A) A) args s 0 0 A) dC dI cA A 5 0 0 al sh 93 [(2, .int x2)] [] σ) {Rc : St → Int32 → Int32 → Prop} (hRc : ∀ (σ : St) (x2 : Int32) (x3 : Int32), Rc σ x2 x3 → WW p l e (RM 3) s m args below meth c (MQ below (va_Qi Q (WPost dC dI cA al sh A) A) args s 0 0 A) dC dI cA A 5 0 0 al sh 8 [(0, .ref 61), (1, .int a1), (2, .int x2), (3, .int x3)] [] σ) {σ : St} {x3 : Int32} {x4 : Int32} {t0 : Int32} (h : m_X9_isTrace_J64 a1 Q K93 Rc σ x3 x4 t0) : WW p l e (RM 3) s m args below meth c (MQ below (va_Qi Q (WPost dC dI cA al sh A) A) args s 0 0 A) dC dI cA A 5 0 0 al sh 64 [(0, .ref 61), (1, .int a1), (3, .int x3), (4, .int x4)] [.int t0] σ := by
  unfold m_X9_isTrace_J64 at h
  refine ww_istore_n (lv' := [(2, .int t0), (0, .ref 61), (1, .int a1), (3, .int x3), (4, .int x4)]) C dX9_isTrace_64 rfl (by decide) rfl ?_
  refine ww_iload_n C 0 rfl dX9_isTrace_65 ?_
  refine ww_if_eq (tgt := 87) C dX9_isTrace_66 (by decide) (fun hc => ?_) (fun hc => ?_)
  · have h := h.1 hc
    refine ww_iinc (v := (x3 + 1)) (lv' := [(3, .int (x3 + 1)), (2, .int t0), (0, .ref 61), (1, .int a1), (4, .int x4)]) C 3 rfl dX9_isTrace_87 rfl (by decide) rfl ?_
    refine ww_goto (tgt := 8) C dX9_isTrace_90 (by decide) ?_
    refine ww_sub [2, 3, 1, 0] rfl ?_
    exact hRc _ _ _ h
  · have h := h.2 hc
    refine ww_aload_n C 1 rfl dX9_isTrace_69 ?_
    refine ww_iload C 4 rfl dX9_isTrace_70 ?_
    refine ww_aload_n C 1 rfl dX9_isTrace_72 ?_
    refine ww_iload_n C 2 rfl dX9_isTrace_73 ?_
    refine ww_iload_n C 3 rfl dX9_isTrace_74 ?_
    refine ww_vi (n := 2) (As := [.int a1, .int x3]) (rest := [.int x4, .ref 61]) C (c_X9_signAt hs h) (shc_61 hs) rfl nq_331 nq_332 nq_333 nq_5 nq_334 (by decide +kernel) rfl rfl ⟨Nat.le_of_ble_eq_true rfl, Nat.le_of_ble_eq_true rfl, Nat.le_of_ble_eq_true rfl, Nat.le_of_ble_eq_true rfl⟩ (Nat.le_of_ble_eq_true rfl) dX9_isTrace_75 (fun r75 σ75 h => ?_)
    refine ww_aload_n C 1 rfl dX9_isTrace_78 ?_
    refine ww_iload_n C 2 rfl dX9_isTrace_79 ?_
    refine ww_iload_n C 3 rfl dX9_isTrace_80 ?_
    refine ww_vi (n := 2) (As := [.int a1, .int x3]) (rest := [.int r75, .int x4, .ref 61]) C (c_X9_aboutAt hs h) (shc_61 hs) rfl nq_335 nq_336 nq_337 nq_5 nq_338 (by decide +kernel) rfl rfl ⟨Nat.le_of_ble_eq_true rfl, Nat.le_of_ble_eq_true rfl, Nat.le_of_ble_eq_true rfl, Nat.le_of_ble_eq_true rfl⟩ (Nat.le_of_ble_eq_true rfl) dX9_isTrace_81 (fun r81 σ81 h => ?_)
    refine ww_vv (n := 3) (As := [.int x4, .int r75, .int r81]) (rest := []) C (c_X9_go hs h) (shc_61 hs) rfl nq_273 nq_274 nq_275 nq_5 nq_276 (by decide +kernel) rfl rfl ⟨Nat.le_of_ble_eq_true rfl, Nat.le_of_ble_eq_true rfl, Nat.le_of_ble_eq_true rfl, Nat.le_of_ble_eq_true rfl⟩ (Nat.le_of_ble_eq_true rfl) dX9_isTrace_84 (fun σ84 h => ?_)
    refine ww_iinc (v := (x3 + 1)) (lv' := [(3, .int (x3 + 1)), (2, .int t0), (0, .ref 61), (1, .int a1), (4, .int x4)]) C 3 rfl dX9_isTrace_87 rfl (by decide) rfl ?_
    refine ww_goto (tgt := 8) C dX9_isTrace_90 (by decide) ?_
    refine ww_sub [2, 3, 1, 0] rfl ?_
    exact hRc _ _ _ h
set_option maxRecDepth 100000 in
set_option maxHeartbeats 4000000 in
theorem w_X9_isTrace_J63 {p : Program} {l : Launch} {e : Env} {s : State} {m : MethodId} {args : Array Value} {below : List Frame} {meth : Method} {c : Code} {dC : Nat → ClassId} {dI : Nat → Nat → Nat} {cA : Nat → ClassId} {A : Nat → Prop} {al : Nat → Nat} {sh : List Kd} (C : Fx p s m args c cX9_isTrace 5 yX9_isTrace.cls dC dI cA A al) (hr : meth.sig.returnType = some .boolean) (hlk : meth.locks = false) (hs : ShC sh) {a1 : Int32} {Q : Int32 → St → Prop} {K93 : St → Int32 → Prop} (hK93 : ∀ (σ : St) (x2 : Int32), K93 σ x2 → WW p l e (RM 3) s m args below meth c (MQ below (va_Qi Q (WPost dC dI cA al sh A) A) args s 0 0 A) dC dI cA A 5 0 0 al sh 93 [(2, .int x2)] [] σ) {Rc : St → Int32 → Int32 → Prop} (hRc : ∀ (σ : St) (x2 : Int32) (x3 : Int32), Rc σ x2 x3 → WW p l e (RM 3) s m args below meth c (MQ below (va_Qi Q (WPost dC dI cA al sh A) A) args s 0 0 A) dC dI cA A 5 0 0 al sh 8 [(0, .ref 61), (1, .int a1), (2, .int x2), (3, .int x3)] [] σ) {σ : St} {x3 : Int32} {x4 : Int32} (h : m_X9_isTrace_J63 a1 Q K93 Rc σ x3 x4) : WW p l e (RM 3) s m args below meth c (MQ below (va_Qi Q (WPost dC dI cA al sh A) A) args s 0 0 A) dC dI cA A 5 0 0 al sh 63 [(0, .ref 61), (1, .int a1), (3, .int x3), (4, .int x4)] [] σ := by
  unfold m_X9_isTrace_J63 at h
  refine ww_iconst (v := 0) C dX9_isTrace_63 (by decide) ?_
  exact w_X9_isTrace_J64 (Q := Q) (a1 := a1) C hr hlk hs hK93 hRc h
set_option maxRecDepth 100000 in
set_option maxHeartbeats 4000000 in
theorem w_X9_isTrace_L8b {p : Program} {l : Launch} {e : Env} {s : State} {m : MethodId} {args : Array Value} {below : List Frame} {meth : Method} {c : Code} {dC : Nat → ClassId} {dI : Nat → Nat → Nat} {cA : Nat → ClassId} {A : Nat → Prop} {al : Nat → Nat} {sh : List Kd} (C : Fx p s m args c cX9_isTrace 5 yX9_isTrace.cls dC dI cA A al) (hr : meth.sig.returnType = some .boolean) (hlk : meth.locks = false) (hs : ShC sh) {a1 : Int32} {Q : Int32 → St → Prop} {K93 : St → Int32 → Prop} (hK93 : ∀ (σ : St) (x2 : Int32), K93 σ x2 → WW p l e (RM 3) s m args below meth c (MQ below (va_Qi Q (WPost dC dI cA al sh A) A) args s 0 0 A) dC dI cA A 5 0 0 al sh 93 [(2, .int x2)] [] σ) {Rc : St → Int32 → Int32 → Prop} (hRc : ∀ (σ : St) (x2 : Int32) (x3 : Int32), Rc σ x2 x3 → WW p l e (RM 3) s m args below meth c (MQ below (va_Qi Q (WPost dC dI cA al sh A) A) args s 0 0 A) dC dI cA A 5 0 0 al sh 8 [(0, .ref 61), (1, .int a1), (2, .int x2), (3, .int x3)] [] σ) {σ : St} {x2 : Int32} {x3 : Int32} (h : m_X9_isTrace_L8b a1 Q K93 Rc σ x2 x3) : WW p l e (RM 3) s m args below meth c (MQ below (va_Qi Q (WPost dC dI cA al sh A) A) args s 0 0 A) dC dI cA A 5 0 0 al sh 8 [(0, .ref 61), (1, .int a1), (2, .int x2), (3, .int x3)] [] σ := by
  unfold m_X9_isTrace_L8b at h
  refine ww_iload_n C 3 rfl dX9_isTrace_8 ?_
  refine ww_aload_n C 0 rfl dX9_isTrace_9 ?_
  refine ww_iload_n C 1 rfl dX9_isTrace_10 ?_
  refine ww_vi (n := 1) (As := [.int a1]) (rest := [.int x3]) C (c_X9_many hs h) (shc_61 hs) rfl nq_291 nq_292 nq_293 nq_5 nq_294 (by decide +kernel) rfl rfl ⟨Nat.le_of_ble_eq_true rfl, Nat.le_of_ble_eq_true rfl, Nat.le_of_ble_eq_true rfl, Nat.le_of_ble_eq_true rfl⟩ (Nat.le_of_ble_eq_true rfl) dX9_isTrace_11 (fun r11 σ11 h => ?_)
  refine ww_icmp_ge (tgt := 93) C dX9_isTrace_14 (by decide) (fun hc => ?_) (fun hc => ?_)
  · have h := h.1 hc
    refine ww_sub [2] rfl ?_
    exact hK93 _ _ h
  · have h := h.2 hc
    refine ww_iload_n C 2 rfl dX9_isTrace_17 ?_
    refine ww_if_eq (tgt := 93) C dX9_isTrace_18 (by decide) (fun hc => ?_) (fun hc => ?_)
    · have h := h.1 hc
      refine ww_sub [2] rfl ?_
      exact hK93 _ _ h
    · have h := h.2 hc
      refine ww_aload_n C 0 rfl dX9_isTrace_21 ?_
      refine ww_iload_n C 1 rfl dX9_isTrace_22 ?_
      refine ww_iload_n C 3 rfl dX9_isTrace_23 ?_
      refine ww_vi (n := 2) (As := [.int a1, .int x3]) (rest := []) C (c_X9_threadAt hs h) (shc_61 hs) rfl nq_327 nq_328 nq_329 nq_5 nq_330 (by decide +kernel) rfl rfl ⟨Nat.le_of_ble_eq_true rfl, Nat.le_of_ble_eq_true rfl, Nat.le_of_ble_eq_true rfl, Nat.le_of_ble_eq_true rfl⟩ (Nat.le_of_ble_eq_true rfl) dX9_isTrace_24 (fun r24 σ24 h => ?_)
      refine ww_istore (lv' := [(4, .int r24), (0, .ref 61), (1, .int a1), (2, .int x2), (3, .int x3)]) C dX9_isTrace_27 (by decide) rfl ?_
      refine ww_aload_n C 1 rfl dX9_isTrace_29 ?_
      refine ww_iload C 0 rfl dX9_isTrace_30 ?_
      refine ww_vi (n := 1) (As := [.int r24]) (rest := []) C (c_X9_isRunning hs h) (shc_61 hs) rfl nq_239 nq_240 nq_241 nq_5 nq_242 (by decide +kernel) rfl rfl ⟨Nat.le_of_ble_eq_true rfl, Nat.le_of_ble_eq_true rfl, Nat.le_of_ble_eq_true rfl, Nat.le_of_ble_eq_true rfl⟩ (Nat.le_of_ble_eq_true rfl) dX9_isTrace_32 (fun r32 σ32 h => ?_)
      refine ww_if_eq (tgt := 63) C dX9_isTrace_35 (by decide) (fun hc => ?_) (fun hc => ?_)
      · have h := h.1 hc
        refine ww_sub [1, 2, 4, 0] rfl ?_
        exact w_X9_isTrace_J63 (Q := Q) (a1 := a1) C hr hlk hs hK93 hRc h
      · have h := h.2 hc
        refine ww_aload_n C 1 rfl dX9_isTrace_38 ?_
        refine ww_iload C 0 rfl dX9_isTrace_39 ?_
        refine ww_aload_n C 1 rfl dX9_isTrace_41 ?_
        refine ww_iload_n C 2 rfl dX9_isTrace_42 ?_
        refine ww_iload_n C 4 rfl dX9_isTrace_43 ?_
        refine ww_vi (n := 2) (As := [.int a1, .int x3]) (rest := [.int r24, .ref 61]) C (c_X9_signAt hs h) (shc_61 hs) rfl nq_331 nq_332 nq_333 nq_5 nq_334 (by decide +kernel) rfl rfl ⟨Nat.le_of_ble_eq_true rfl, Nat.le_of_ble_eq_true rfl, Nat.le_of_ble_eq_true rfl, Nat.le_of_ble_eq_true rfl⟩ (Nat.le_of_ble_eq_true rfl) dX9_isTrace_44 (fun r44 σ44 h => ?_)
        refine ww_aload_n C 1 rfl dX9_isTrace_47 ?_
        refine ww_iload_n C 2 rfl dX9_isTrace_48 ?_
        refine ww_iload_n C 4 rfl dX9_isTrace_49 ?_
        refine ww_vi (n := 2) (As := [.int a1, .int x3]) (rest := [.int r44, .int r24, .ref 61]) C (c_X9_aboutAt hs h) (shc_61 hs) rfl nq_335 nq_336 nq_337 nq_5 nq_338 (by decide +kernel) rfl rfl ⟨Nat.le_of_ble_eq_true rfl, Nat.le_of_ble_eq_true rfl, Nat.le_of_ble_eq_true rfl, Nat.le_of_ble_eq_true rfl⟩ (Nat.le_of_ble_eq_true rfl) dX9_isTrace_50 (fun r50 σ50 h => ?_)
        refine ww_vi (n := 3) (As := [.int r24, .int r44, .int r50]) (rest := []) C (c_X9_mayBe hs h) (shc_61 hs) rfl nq_254 nq_255 nq_256 nq_5 nq_257 (by decide +kernel) rfl rfl ⟨Nat.le_of_ble_eq_true rfl, Nat.le_of_ble_eq_true rfl, Nat.le_of_ble_eq_true rfl, Nat.le_of_ble_eq_true rfl⟩ (Nat.le_of_ble_eq_true rfl) dX9_isTrace_53 (fun r53 σ53 h => ?_)
        refine ww_if_eq (tgt := 63) C dX9_isTrace_56 (by decide) (fun hc => ?_) (fun hc => ?_)
        · have h := h.1 hc
          refine ww_sub [1, 2, 4, 0] rfl ?_
          exact w_X9_isTrace_J63 (Q := Q) (a1 := a1) C hr hlk hs hK93 hRc h
        · have h := h.2 hc
          refine ww_iconst (v := 1) C dX9_isTrace_59 (by decide) ?_
          refine ww_goto (tgt := 64) C dX9_isTrace_60 (by decide) ?_
          refine ww_sub [1, 2, 4, 0] rfl ?_
          exact w_X9_isTrace_J64 (Q := Q) (a1 := a1) C hr hlk hs hK93 hRc h
set_option maxRecDepth 100000 in
set_option maxHeartbeats 4000000 in
theorem w_X9_isTrace_L8 {p : Program} {l : Launch} {e : Env} {s : State} {m : MethodId} {args : Array Value} {below : List Frame} {meth : Method} {c : Code} {dC : Nat → ClassId} {dI : Nat → Nat → Nat} {cA : Nat → ClassId} {A : Nat → Prop} {al : Nat → Nat} {sh : List Kd} (C : Fx p s m args c cX9_isTrace 5 yX9_isTrace.cls dC dI cA A al) (hr : meth.sig.returnType = some .boolean) (hlk : meth.locks = false) (hs : ShC sh) {a1 : Int32} {Q : Int32 → St → Prop} {K93 : St → Int32 → Prop} (hK93 : ∀ (σ : St) (x2 : Int32), K93 σ x2 → WW p l e (RM 3) s m args below meth c (MQ below (va_Qi Q (WPost dC dI cA al sh A) A) args s 0 0 A) dC dI cA A 5 0 0 al sh 93 [(2, .int x2)] [] σ) : ∀ (f : Nat) (σ : St) (x2 : Int32) (x3 : Int32), m_X9_isTrace_L8 a1 Q K93 f σ x2 x3 → WW p l e (RM 3) s m args below meth c (MQ below (va_Qi Q (WPost dC dI cA al sh A) A) args s 0 0 A) dC dI cA A 5 0 0 al sh 8 [(0, .ref 61), (1, .int a1), (2, .int x2), (3, .int x3)] [] σ := by
  intro f
  induction f with
  | zero => intro σ x2 x3 h; exact False.elim h
  | succ f ih => intro σ x2 x3 h; exact w_X9_isTrace_L8b (Q := Q) (a1 := a1) C hr hlk hs hK93 ih h
set_option maxRecDepth 100000 in
set_option maxHeartbeats 4000000 in
theorem w_X9_isTrace_J93 {p : Program} {l : Launch} {e : Env} {s : State} {m : MethodId} {args : Array Value} {below : List Frame} {meth : Method} {c : Code} {dC : Nat → ClassId} {dI : Nat → Nat → Nat} {cA : Nat → ClassId} {A : Nat → Prop} {al : Nat → Nat} {sh : List Kd} (C : Fx p s m args c cX9_isTrace 5 yX9_isTrace.cls dC dI cA A al) (hr : meth.sig.returnType = some .boolean) (hlk : meth.locks = false) (hs : ShC sh) {a1 : Int32} {Q : Int32 → St → Prop} {σ : St} {x2 : Int32} (h : m_X9_isTrace_J93 a1 Q σ x2) : WW p l e (RM 3) s m args below meth c (MQ below (va_Qi Q (WPost dC dI cA al sh A) A) args s 0 0 A) dC dI cA A 5 0 0 al sh 93 [(2, .int x2)] [] σ := by
  unfold m_X9_isTrace_J93 at h
  refine ww_iload_n C 0 rfl dX9_isTrace_93 ?_
  exact ww_zret C hr hlk h.1 h.2 dX9_isTrace_94
set_option maxRecDepth 100000 in
set_option maxHeartbeats 4000000 in
theorem c_X9_isTrace {l : Launch} {dC : Nat → ClassId} {dI : Nat → Nat → Nat} {cA : Nat → ClassId} {al : Nat → Nat} {sh : List Kd} (hs : ShC sh) {σ : St} {a1 : Int32} {Q : Int32 → St → Prop} (h : m_X9_isTrace σ a1 Q) : ∀ sz, Met l yX9_isTrace (wd yX9_isTrace cX9_isTrace 5 (some .boolean)) (RM 3) (va_Pc ([.ref 61, .int a1].map (cv al)) (WPre dC dI cA al sh σ sz)) (va_Qi Q (WPost dC dI cA al sh (AW al sh sz)) (AW al sh sz)) 0 0 (AW al sh sz) := by
  refine ww_met (Qc := fun A => va_Qi Q (WPost dC dI cA al sh A) A) (by decide +kernel) (Nat.le_of_ble_eq_true rfl) (fun p e s m args below meth c A C hr hlk => ?_)
  show WW p l e (RM 3) s m args below meth c (MQ below (va_Qi Q (WPost dC dI cA al sh A) A) args s 0 0 A) dC dI cA A 5 0 0 al sh 0 [(0, .ref 61), (1, .int a1)] [] σ
  unfold m_X9_isTrace at h
  refine ww_aload_n C 0 rfl dX9_isTrace_0 ?_
  refine ww_vv (n := 0) (As := []) (rest := []) C (c_X9_begin hs h) (shc_61 hs) rfl nq_233 nq_234 nq_235 nq_5 nq_236 (by decide +kernel) rfl rfl ⟨Nat.le_of_ble_eq_true rfl, Nat.le_of_ble_eq_true rfl, Nat.le_of_ble_eq_true rfl, Nat.le_of_ble_eq_true rfl⟩ (Nat.le_of_ble_eq_true rfl) dX9_isTrace_1 (fun σ1 h => ?_)
  refine ww_iconst (v := 1) C dX9_isTrace_4 (by decide) ?_
  refine ww_istore_n (lv' := [(2, .int 1), (0, .ref 61), (1, .int a1)]) C dX9_isTrace_5 rfl (by decide) rfl ?_
  refine ww_iconst (v := 0) C dX9_isTrace_6 (by decide) ?_
  refine ww_istore_n (lv' := [(3, .int 0), (2, .int 1), (0, .ref 61), (1, .int a1)]) C dX9_isTrace_7 rfl (by decide) rfl ?_
  refine ww_sub [2, 3, 1, 0] rfl ?_
  obtain ⟨f, h⟩ := h
  exact w_X9_isTrace_L8 (Q := Q) (a1 := a1) C hr hlk hs (fun σ x2 h => by exact w_X9_isTrace_J93 (Q := Q) (a1 := a1) C hr hlk hs h) f _ _ _ h
set_option maxRecDepth 100000 in
set_option maxHeartbeats 4000000 in
theorem w_X9_dropOn_L15b {p : Program} {l : Launch} {e : Env} {s : State} {m : MethodId} {args : Array Value} {below : List Frame} {meth : Method} {c : Code} {dC : Nat → ClassId} {dI : Nat → Nat → Nat} {cA : Nat → ClassId} {A : Nat → Prop} {al : Nat → Nat} {sh : List Kd} (C : Fx p s m args c cX9_dropOn 4 yX9_dropOn.cls dC dI cA A al) (hr : meth.sig.returnType = none) (hlk : meth.locks = false) (hs : ShC sh) {a1 : Int32} {a2 : Int32} {Q : St → Prop} {K56 : St → Prop} (hK56 : ∀ (σ : St), K56 σ → WW p l e (RM 1) s m args below meth c (MQ below (va_Qv Q (WPost dC dI cA al sh A) A) args s 0 0 A) dC dI cA A 4 0 0 al sh 56 [] [] σ) {Rc : St → Int32 → Prop} (hRc : ∀ (σ : St) (x3 : Int32), Rc σ x3 → WW p l e (RM 1) s m args below meth c (MQ below (va_Qv Q (WPost dC dI cA al sh A) A) args s 0 0 A) dC dI cA A 4 0 0 al sh 15 [(0, .ref 61), (1, .int a1), (3, .int x3)] [] σ) {σ : St} {x3 : Int32} (h : m_X9_dropOn_L15b a1 a2 Q K56 Rc σ x3) : WW p l e (RM 1) s m args below meth c (MQ below (va_Qv Q (WPost dC dI cA al sh A) A) args s 0 0 A) dC dI cA A 4 0 0 al sh 15 [(0, .ref 61), (1, .int a1), (3, .int x3)] [] σ := by
  unfold m_X9_dropOn_L15b at h
  refine ww_iload_n C 2 rfl dX9_dropOn_15 ?_
  refine ww_aload_n C 0 rfl dX9_dropOn_16 ?_
  refine ww_iload_n C 1 rfl dX9_dropOn_17 ?_
  refine ww_vi (n := 1) (As := [.int a1]) (rest := [.int x3]) C (c_X9_many hs h) (shc_61 hs) rfl nq_291 nq_292 nq_293 nq_5 nq_294 (by decide +kernel) rfl rfl ⟨Nat.le_of_ble_eq_true rfl, Nat.le_of_ble_eq_true rfl, Nat.le_of_ble_eq_true rfl, Nat.le_of_ble_eq_true rfl⟩ (Nat.le_of_ble_eq_true rfl) dX9_dropOn_18 (fun r18 σ18 h => ?_)
  refine ww_icmp_ge (tgt := 56) C dX9_dropOn_21 (by decide) (fun hc => ?_) (fun hc => ?_)
  · have h := h.1 hc
    refine ww_sub [] rfl ?_
    exact hK56 _ h
  · have h := h.2 hc
    refine ww_aload_n C 0 rfl dX9_dropOn_24 ?_
    refine ww_getR C (shc_61 hs) rfl inG9 4 (by decide) nq_123 rfl dX9_dropOn_25 ?_
    refine ww_bipush (v := 21) C dX9_dropOn_28 (by decide) ?_
    refine ww_iload_n C 1 rfl dX9_dropOn_30 ?_
    refine ww_imul C dX9_dropOn_31 ?_
    refine ww_iconst (v := 1) C dX9_dropOn_32 (by decide) ?_
    refine ww_iadd C dX9_dropOn_33 ?_
    refine ww_iload_n C 2 rfl dX9_dropOn_34 ?_
    refine ww_iadd C dX9_dropOn_35 ?_
    refine ww_aload_n C 0 rfl dX9_dropOn_36 ?_
    refine ww_getR C (shc_61 hs) rfl inG9 4 (by decide) nq_123 rfl dX9_dropOn_37 ?_
    refine ww_bipush (v := 21) C dX9_dropOn_40 (by decide) ?_
    refine ww_iload_n C 1 rfl dX9_dropOn_42 ?_
    refine ww_imul C dX9_dropOn_43 ?_
    refine ww_iconst (v := 2) C dX9_dropOn_44 (by decide) ?_
    refine ww_iadd C dX9_dropOn_45 ?_
    refine ww_iload_n C 2 rfl dX9_dropOn_46 ?_
    refine ww_iadd C dX9_dropOn_47 ?_
    refine ww_iald C (shc_64 hs) h.1 dX9_dropOn_48 ?_
    have h := h.2
    refine ww_iast C (shc_64 hs) h.1 dX9_dropOn_49 h.2 (fun σ49 h => ?_)
    refine ww_iinc (v := (x3 + 1)) (lv' := [(3, .int (x3 + 1)), (0, .ref 61), (1, .int a1)]) C 2 rfl dX9_dropOn_50 rfl (by decide) rfl ?_
    refine ww_goto (tgt := 15) C dX9_dropOn_53 (by decide) ?_
    refine ww_sub [1, 2, 0] rfl ?_
    exact hRc _ _ h
set_option maxRecDepth 100000 in
set_option maxHeartbeats 4000000 in
theorem w_X9_dropOn_L15 {p : Program} {l : Launch} {e : Env} {s : State} {m : MethodId} {args : Array Value} {below : List Frame} {meth : Method} {c : Code} {dC : Nat → ClassId} {dI : Nat → Nat → Nat} {cA : Nat → ClassId} {A : Nat → Prop} {al : Nat → Nat} {sh : List Kd} (C : Fx p s m args c cX9_dropOn 4 yX9_dropOn.cls dC dI cA A al) (hr : meth.sig.returnType = none) (hlk : meth.locks = false) (hs : ShC sh) {a1 : Int32} {a2 : Int32} {Q : St → Prop} {K56 : St → Prop} (hK56 : ∀ (σ : St), K56 σ → WW p l e (RM 1) s m args below meth c (MQ below (va_Qv Q (WPost dC dI cA al sh A) A) args s 0 0 A) dC dI cA A 4 0 0 al sh 56 [] [] σ) : ∀ (f : Nat) (σ : St) (x3 : Int32), m_X9_dropOn_L15 a1 a2 Q K56 f σ x3 → WW p l e (RM 1) s m args below meth c (MQ below (va_Qv Q (WPost dC dI cA al sh A) A) args s 0 0 A) dC dI cA A 4 0 0 al sh 15 [(0, .ref 61), (1, .int a1), (3, .int x3)] [] σ := by
  intro f
  induction f with
  | zero => intro σ x3 h; exact False.elim h
  | succ f ih => intro σ x3 h; exact w_X9_dropOn_L15b (Q := Q) (a1 := a1) (a2 := a2) C hr hlk hs hK56 ih h
set_option maxRecDepth 100000 in
set_option maxHeartbeats 4000000 in
theorem w_X9_dropOn_J56 {p : Program} {l : Launch} {e : Env} {s : State} {m : MethodId} {args : Array Value} {below : List Frame} {meth : Method} {c : Code} {dC : Nat → ClassId} {dI : Nat → Nat → Nat} {cA : Nat → ClassId} {A : Nat → Prop} {al : Nat → Nat} {sh : List Kd} (C : Fx p s m args c cX9_dropOn 4 yX9_dropOn.cls dC dI cA A al) (hr : meth.sig.returnType = none) (hlk : meth.locks = false) (hs : ShC sh) {a1 : Int32} {a2 : Int32} {Q : St → Prop} {σ : St} (h : m_X9_dropOn_J56 a1 a2 Q σ) : WW p l e (RM 1) s m args below meth c (MQ below (va_Qv Q (WPost dC dI cA al sh A) A) args s 0 0 A) dC dI cA A 4 0 0 al sh 56 [] [] σ := by
  unfold m_X9_dropOn_J56 at h
  exact ww_vret C hr hlk h dX9_dropOn_56
set_option maxRecDepth 100000 in
set_option maxHeartbeats 4000000 in
theorem c_X9_dropOn {l : Launch} {dC : Nat → ClassId} {dI : Nat → Nat → Nat} {cA : Nat → ClassId} {al : Nat → Nat} {sh : List Kd} (hs : ShC sh) {σ : St} {a1 : Int32} {a2 : Int32} {Q : St → Prop} (h : m_X9_dropOn σ a1 a2 Q) : ∀ sz, Met l yX9_dropOn (wd yX9_dropOn cX9_dropOn 4 none) (RM 1) (va_Pc ([.ref 61, .int a1, .int a2].map (cv al)) (WPre dC dI cA al sh σ sz)) (va_Qv Q (WPost dC dI cA al sh (AW al sh sz)) (AW al sh sz)) 0 0 (AW al sh sz) := by
  refine ww_met (Qc := fun A => va_Qv Q (WPost dC dI cA al sh A) A) (by decide +kernel) (Nat.le_of_ble_eq_true rfl) (fun p e s m args below meth c A C hr hlk => ?_)
  show WW p l e (RM 1) s m args below meth c (MQ below (va_Qv Q (WPost dC dI cA al sh A) A) args s 0 0 A) dC dI cA A 4 0 0 al sh 0 [(0, .ref 61), (1, .int a1), (2, .int a2)] [] σ
  unfold m_X9_dropOn at h
  refine ww_aload_n C 0 rfl dX9_dropOn_0 ?_
  refine ww_getR C (shc_61 hs) rfl inG9 4 (by decide) nq_123 rfl dX9_dropOn_1 ?_
  refine ww_bipush (v := 21) C dX9_dropOn_4 (by decide) ?_
  refine ww_iload_n C 1 rfl dX9_dropOn_6 ?_
  refine ww_imul C dX9_dropOn_7 ?_
  refine ww_dup2 C rfl rfl dX9_dropOn_8 ?_
  refine ww_iald C (shc_64 hs) h.1 dX9_dropOn_9 ?_
  have h := h.2
  refine ww_iconst (v := 1) C dX9_dropOn_10 (by decide) ?_
  refine ww_isub C dX9_dropOn_11 ?_
  refine ww_iast C (shc_64 hs) h.1 dX9_dropOn_12 h.2 (fun σ12 h => ?_)
  refine ww_iload_n C 2 rfl dX9_dropOn_13 ?_
  refine ww_istore_n (lv' := [(3, .int a2), (0, .ref 61), (1, .int a1), (2, .int a2)]) C dX9_dropOn_14 rfl (by decide) rfl ?_
  refine ww_sub [1, 2, 0] rfl ?_
  obtain ⟨f, h⟩ := h
  exact w_X9_dropOn_L15 (Q := Q) (a1 := a1) (a2 := a2) C hr hlk hs (fun σ h => by exact w_X9_dropOn_J56 (Q := Q) (a1 := a1) (a2 := a2) C hr hlk hs h) f _ _ h
set_option maxRecDepth 100000 in
set_option maxHeartbeats 4000000 in
theorem c_X9_swapOn {l : Launch} {dC : Nat → ClassId} {dI : Nat → Nat → Nat} {cA : Nat → ClassId} {al : Nat → Nat} {sh : List Kd} (hs : ShC sh) {σ : St} {a1 : Int32} {a2 : Int32} {Q : St → Prop} (h : m_X9_swapOn σ a1 a2 Q) : ∀ sz, Met l yX9_swapOn (wd yX9_swapOn cX9_swapOn 4 none) (RM 0) (va_Pc ([.ref 61, .int a1, .int a2].map (cv al)) (WPre dC dI cA al sh σ sz)) (va_Qv Q (WPost dC dI cA al sh (AW al sh sz)) (AW al sh sz)) 0 0 (AW al sh sz) := by
  refine ww_met (Qc := fun A => va_Qv Q (WPost dC dI cA al sh A) A) (by decide +kernel) (Nat.le_of_ble_eq_true rfl) (fun p e s m args below meth c A C hr hlk => ?_)
  show WW p l e (RM 0) s m args below meth c (MQ below (va_Qv Q (WPost dC dI cA al sh A) A) args s 0 0 A) dC dI cA A 4 0 0 al sh 0 [(0, .ref 61), (1, .int a1), (2, .int a2)] [] σ
  unfold m_X9_swapOn at h
  refine ww_aload_n C 0 rfl dX9_swapOn_0 ?_
  refine ww_getR C (shc_61 hs) rfl inG9 4 (by decide) nq_123 rfl dX9_swapOn_1 ?_
  refine ww_bipush (v := 21) C dX9_swapOn_4 (by decide) ?_
  refine ww_iload_n C 1 rfl dX9_swapOn_6 ?_
  refine ww_imul C dX9_swapOn_7 ?_
  refine ww_iconst (v := 1) C dX9_swapOn_8 (by decide) ?_
  refine ww_iadd C dX9_swapOn_9 ?_
  refine ww_iload_n C 2 rfl dX9_swapOn_10 ?_
  refine ww_iadd C dX9_swapOn_11 ?_
  refine ww_iald C (shc_64 hs) h.1 dX9_swapOn_12 ?_
  have h := h.2
  refine ww_nmI h (fun y13 h => ?_)
  refine ww_istore_n (lv' := [(3, .int y13), (0, .ref 61), (1, .int a1), (2, .int a2)]) C dX9_swapOn_13 rfl (by decide) rfl ?_
  refine ww_aload_n C 1 rfl dX9_swapOn_14 ?_
  refine ww_getR C (shc_61 hs) rfl inG9 4 (by decide) nq_123 rfl dX9_swapOn_15 ?_
  refine ww_bipush (v := 21) C dX9_swapOn_18 (by decide) ?_
  refine ww_iload_n C 2 rfl dX9_swapOn_20 ?_
  refine ww_imul C dX9_swapOn_21 ?_
  refine ww_iconst (v := 1) C dX9_swapOn_22 (by decide) ?_
  refine ww_iadd C dX9_swapOn_23 ?_
  refine ww_iload_n C 3 rfl dX9_swapOn_24 ?_
  refine ww_iadd C dX9_swapOn_25 ?_
  refine ww_aload_n C 1 rfl dX9_swapOn_26 ?_
  refine ww_getR C (shc_61 hs) rfl inG9 4 (by decide) nq_123 rfl dX9_swapOn_27 ?_
  refine ww_bipush (v := 21) C dX9_swapOn_30 (by decide) ?_
  refine ww_iload_n C 2 rfl dX9_swapOn_32 ?_
  refine ww_imul C dX9_swapOn_33 ?_
  refine ww_iconst (v := 2) C dX9_swapOn_34 (by decide) ?_
  refine ww_iadd C dX9_swapOn_35 ?_
  refine ww_iload_n C 3 rfl dX9_swapOn_36 ?_
  refine ww_iadd C dX9_swapOn_37 ?_
  refine ww_iald C (shc_64 hs) h.1 dX9_swapOn_38 ?_
  have h := h.2
  refine ww_iast C (shc_64 hs) h.1 dX9_swapOn_39 h.2 (fun σ39 h => ?_)
  refine ww_aload_n C 1 rfl dX9_swapOn_40 ?_
  refine ww_getR C (shc_61 hs) rfl inG9 4 (by decide) nq_123 rfl dX9_swapOn_41 ?_
  refine ww_bipush (v := 21) C dX9_swapOn_44 (by decide) ?_
  refine ww_iload_n C 2 rfl dX9_swapOn_46 ?_
  refine ww_imul C dX9_swapOn_47 ?_
  refine ww_iconst (v := 2) C dX9_swapOn_48 (by decide) ?_
  refine ww_iadd C dX9_swapOn_49 ?_
  refine ww_iload_n C 3 rfl dX9_swapOn_50 ?_
  refine ww_iadd C dX9_swapOn_51 ?_
  refine ww_iload_n C 0 rfl dX9_swapOn_52 ?_
  refine ww_iast C (shc_64 hs) h.1 dX9_swapOn_53 h.2 (fun σ53 h => ?_)
  exact ww_vret C hr hlk h dX9_swapOn_54
set_option maxRecDepth 100000 in
set_option maxHeartbeats 4000000 in
theorem w_X9_lay_L2b {p : Program} {l : Launch} {e : Env} {s : State} {m : MethodId} {args : Array Value} {below : List Frame} {meth : Method} {c : Code} {dC : Nat → ClassId} {dI : Nat → Nat → Nat} {cA : Nat → ClassId} {A : Nat → Prop} {al : Nat → Nat} {sh : List Kd} (C : Fx p s m args c cX9_lay 4 yX9_lay.cls dC dI cA A al) (hr : meth.sig.returnType = none) (hlk : meth.locks = false) (hs : ShC sh) {a1 : Int32} {a2 : Int32} {Q : St → Prop} {K36 : St → Prop} (hK36 : ∀ (σ : St), K36 σ → WW p l e (RM 0) s m args below meth c (MQ below (va_Qv Q (WPost dC dI cA al sh A) A) args s 0 0 A) dC dI cA A 4 0 0 al sh 36 [] [] σ) {Rc : St → Int32 → Prop} (hRc : ∀ (σ : St) (x3 : Int32), Rc σ x3 → WW p l e (RM 0) s m args below meth c (MQ below (va_Qv Q (WPost dC dI cA al sh A) A) args s 0 0 A) dC dI cA A 4 0 0 al sh 2 [(0, .ref 61), (1, .int a1), (2, .int a2), (3, .int x3)] [] σ) {σ : St} {x3 : Int32} (h : m_X9_lay_L2b a1 a2 Q K36 Rc σ x3) : WW p l e (RM 0) s m args below meth c (MQ below (va_Qv Q (WPost dC dI cA al sh A) A) args s 0 0 A) dC dI cA A 4 0 0 al sh 2 [(0, .ref 61), (1, .int a1), (2, .int a2), (3, .int x3)] [] σ := by
  unfold m_X9_lay_L2b at h
  refine ww_iload_n C 3 rfl dX9_lay_2 ?_
  refine ww_bipush (v := 21) C dX9_lay_3 (by decide) ?_
  refine ww_icmp_ge (tgt := 36) C dX9_lay_5 (by decide) (fun hc => ?_) (fun hc => ?_)
  · have h := h.1 hc
    refine ww_sub [] rfl ?_
    exact hK36 _ h
  · have h := h.2 hc
    refine ww_aload_n C 0 rfl dX9_lay_8 ?_
    refine ww_getR C (shc_61 hs) rfl inG9 4 (by decide) nq_123 rfl dX9_lay_9 ?_
    refine ww_bipush (v := 21) C dX9_lay_12 (by decide) ?_
    refine ww_iload_n C 1 rfl dX9_lay_14 ?_
    refine ww_imul C dX9_lay_15 ?_
    refine ww_iload_n C 3 rfl dX9_lay_16 ?_
    refine ww_iadd C dX9_lay_17 ?_
    refine ww_aload_n C 0 rfl dX9_lay_18 ?_
    refine ww_getR C (shc_61 hs) rfl inG9 4 (by decide) nq_123 rfl dX9_lay_19 ?_
    refine ww_bipush (v := 21) C dX9_lay_22 (by decide) ?_
    refine ww_iload_n C 2 rfl dX9_lay_24 ?_
    refine ww_imul C dX9_lay_25 ?_
    refine ww_iload_n C 3 rfl dX9_lay_26 ?_
    refine ww_iadd C dX9_lay_27 ?_
    refine ww_iald C (shc_64 hs) h.1 dX9_lay_28 ?_
    have h := h.2
    refine ww_iast C (shc_64 hs) h.1 dX9_lay_29 h.2 (fun σ29 h => ?_)
    refine ww_iinc (v := (x3 + 1)) (lv' := [(3, .int (x3 + 1)), (0, .ref 61), (1, .int a1), (2, .int a2)]) C 3 rfl dX9_lay_30 rfl (by decide) rfl ?_
    refine ww_goto (tgt := 2) C dX9_lay_33 (by decide) ?_
    refine ww_sub [1, 2, 3, 0] rfl ?_
    exact hRc _ _ h
set_option maxRecDepth 100000 in
set_option maxHeartbeats 4000000 in
theorem w_X9_lay_L2 {p : Program} {l : Launch} {e : Env} {s : State} {m : MethodId} {args : Array Value} {below : List Frame} {meth : Method} {c : Code} {dC : Nat → ClassId} {dI : Nat → Nat → Nat} {cA : Nat → ClassId} {A : Nat → Prop} {al : Nat → Nat} {sh : List Kd} (C : Fx p s m args c cX9_lay 4 yX9_lay.cls dC dI cA A al) (hr : meth.sig.returnType = none) (hlk : meth.locks = false) (hs : ShC sh) {a1 : Int32} {a2 : Int32} {Q : St → Prop} {K36 : St → Prop} (hK36 : ∀ (σ : St), K36 σ → WW p l e (RM 0) s m args below meth c (MQ below (va_Qv Q (WPost dC dI cA al sh A) A) args s 0 0 A) dC dI cA A 4 0 0 al sh 36 [] [] σ) : ∀ (f : Nat) (σ : St) (x3 : Int32), m_X9_lay_L2 a1 a2 Q K36 f σ x3 → WW p l e (RM 0) s m args below meth c (MQ below (va_Qv Q (WPost dC dI cA al sh A) A) args s 0 0 A) dC dI cA A 4 0 0 al sh 2 [(0, .ref 61), (1, .int a1), (2, .int a2), (3, .int x3)] [] σ := by
  intro f
  induction f with
  | zero => intro σ x3 h; exact False.elim h
  | succ f ih => intro σ x3 h; exact w_X9_lay_L2b (Q := Q) (a1 := a1) (a2 := a2) C hr hlk hs hK36 ih h
set_option maxRecDepth 100000 in
set_option maxHeartbeats 4000000 in
theorem w_X9_lay_J36 {p : Program} {l : Launch} {e : Env} {s : State} {m : MethodId} {args : Array Value} {below : List Frame} {meth : Method} {c : Code} {dC : Nat → ClassId} {dI : Nat → Nat → Nat} {cA : Nat → ClassId} {A : Nat → Prop} {al : Nat → Nat} {sh : List Kd} (C : Fx p s m args c cX9_lay 4 yX9_lay.cls dC dI cA A al) (hr : meth.sig.returnType = none) (hlk : meth.locks = false) (hs : ShC sh) {a1 : Int32} {a2 : Int32} {Q : St → Prop} {σ : St} (h : m_X9_lay_J36 a1 a2 Q σ) : WW p l e (RM 0) s m args below meth c (MQ below (va_Qv Q (WPost dC dI cA al sh A) A) args s 0 0 A) dC dI cA A 4 0 0 al sh 36 [] [] σ := by
  unfold m_X9_lay_J36 at h
  exact ww_vret C hr hlk h dX9_lay_36
set_option maxRecDepth 100000 in
set_option maxHeartbeats 4000000 in
theorem c_X9_lay {l : Launch} {dC : Nat → ClassId} {dI : Nat → Nat → Nat} {cA : Nat → ClassId} {al : Nat → Nat} {sh : List Kd} (hs : ShC sh) {σ : St} {a1 : Int32} {a2 : Int32} {Q : St → Prop} (h : m_X9_lay σ a1 a2 Q) : ∀ sz, Met l yX9_lay (wd yX9_lay cX9_lay 4 none) (RM 0) (va_Pc ([.ref 61, .int a1, .int a2].map (cv al)) (WPre dC dI cA al sh σ sz)) (va_Qv Q (WPost dC dI cA al sh (AW al sh sz)) (AW al sh sz)) 0 0 (AW al sh sz) := by
  refine ww_met (Qc := fun A => va_Qv Q (WPost dC dI cA al sh A) A) (by decide +kernel) (Nat.le_of_ble_eq_true rfl) (fun p e s m args below meth c A C hr hlk => ?_)
  show WW p l e (RM 0) s m args below meth c (MQ below (va_Qv Q (WPost dC dI cA al sh A) A) args s 0 0 A) dC dI cA A 4 0 0 al sh 0 [(0, .ref 61), (1, .int a1), (2, .int a2)] [] σ
  unfold m_X9_lay at h
  refine ww_iconst (v := 0) C dX9_lay_0 (by decide) ?_
  refine ww_istore_n (lv' := [(3, .int 0), (0, .ref 61), (1, .int a1), (2, .int a2)]) C dX9_lay_1 rfl (by decide) rfl ?_
  refine ww_sub [1, 2, 3, 0] rfl ?_
  obtain ⟨f, h⟩ := h
  exact w_X9_lay_L2 (Q := Q) (a1 := a1) (a2 := a2) C hr hlk hs (fun σ h => by exact w_X9_lay_J36 (Q := Q) (a1 := a1) (a2 := a2) C hr hlk hs h) f _ _ h
set_option maxRecDepth 100000 in
set_option maxHeartbeats 4000000 in
theorem c_X9_write {l : Launch} {dC : Nat → ClassId} {dI : Nat → Nat → Nat} {cA : Nat → ClassId} {al : Nat → Nat} {sh : List Kd} (hs : ShC sh) {σ : St} {a1 : Int32} {Q : Int32 → St → Prop} (h : m_X9_write σ a1 Q) : ∀ sz, Met l yX9_write (wd yX9_write cX9_write 2 (some .int)) (RM 1) (va_Pc ([.ref 61, .int a1].map (cv al)) (WPre dC dI cA al sh σ sz)) (va_Qi Q (WPost dC dI cA al sh (AW al sh sz)) (AW al sh sz)) 0 0 (AW al sh sz) := by
  refine ww_met (Qc := fun A => va_Qi Q (WPost dC dI cA al sh A) A) (by decide +kernel) (Nat.le_of_ble_eq_true rfl) (fun p e s m args below meth c A C hr hlk => ?_)
  show WW p l e (RM 1) s m args below meth c (MQ below (va_Qi Q (WPost dC dI cA al sh A) A) args s 0 0 A) dC dI cA A 2 0 0 al sh 0 [(0, .ref 61), (1, .int a1)] [] σ
  unfold m_X9_write at h
  refine ww_iload_n C 1 rfl dX9_write_0 ?_
  refine ww_i2l C dX9_write_1 ?_
  refine ww_lconst (v := 0) C dX9_write_2 (by decide) ?_
  refine ww_ldc2 (v := 255) C nq_157 dX9_write_3 ?_
  refine ww_si (n := 3) (As := [.long (a1.toInt64), .long 0, .long 255]) (rest := []) C (c_X9_in hs h) nq_159 nq_160 nq_5 nq_161 (by decide +kernel) rfl rfl ⟨Nat.le_of_ble_eq_true rfl, Nat.le_of_ble_eq_true rfl, Nat.le_of_ble_eq_true rfl, Nat.le_of_ble_eq_true rfl⟩ (Nat.le_of_ble_eq_true rfl) dX9_write_6 (fun r6 σ6 h => ?_)
  refine ww_if_ne (tgt := 15) C dX9_write_9 (by decide) (fun hc => ?_) (fun hc => ?_)
  · have h := h.1 hc
    refine ww_aload_n C 0 rfl dX9_write_15 ?_
    refine ww_getI C (shc_61 hs) rfl inG9 6 (by decide) nq_158 rfl dX9_write_16 ?_
    refine ww_bipush (v := 64) C dX9_write_19 (by decide) ?_
    refine ww_icmp_ne (tgt := 27) C dX9_write_21 (by decide) (fun hc => ?_) (fun hc => ?_)
    · have h := h.1 hc
      refine ww_aload_n C 0 rfl dX9_write_27 ?_
      refine ww_getR C (shc_61 hs) rfl inG9 5 (by decide) nq_124 rfl dX9_write_28 ?_
      refine ww_aload_n C 0 rfl dX9_write_31 ?_
      refine ww_getI C (shc_61 hs) rfl inG9 6 (by decide) nq_158 rfl dX9_write_32 ?_
      refine ww_iload_n C 1 rfl dX9_write_35 ?_
      refine ww_iast C (shc_65 hs) h.1 dX9_write_36 h.2 (fun σ36 h => ?_)
      refine ww_aload_n C 0 rfl dX9_write_37 ?_
      refine ww_dup C rfl dX9_write_38 ?_
      refine ww_getI C (shc_61 hs) rfl inG9 6 (by decide) nq_158 rfl dX9_write_39 ?_
      refine ww_iconst (v := 1) C dX9_write_42 (by decide) ?_
      refine ww_iadd C dX9_write_43 ?_
      refine ww_putI C (shc_61 hs) rfl inG9 6 (by decide) nq_158 tyX9 tyX9_ok nmX9 rfl (by decide +kernel) rfl dX9_write_44 h (fun σ44 h => ?_)
      refine ww_aload_n C 0 rfl dX9_write_47 ?_
      refine ww_getI C (shc_61 hs) rfl inG9 6 (by decide) nq_158 rfl dX9_write_48 ?_
      exact ww_iret C hr hlk h dX9_write_51
    · have h := h.2 hc
      refine ww_bipush (v := -4) C dX9_write_24 (by decide) ?_
      exact ww_iret C hr hlk h dX9_write_26
  · have h := h.2 hc
    refine ww_bipush (v := -2) C dX9_write_12 (by decide) ?_
    exact ww_iret C hr hlk h dX9_write_14
set_option maxRecDepth 100000 in
set_option maxHeartbeats 4000000 in
theorem c_X9_wipe {l : Launch} {dC : Nat → ClassId} {dI : Nat → Nat → Nat} {cA : Nat → ClassId} {al : Nat → Nat} {sh : List Kd} (hs : ShC sh) {σ : St} {Q : Int32 → St → Prop} (h : m_X9_wipe σ Q) : ∀ sz, Met l yX9_wipe (wd yX9_wipe cX9_wipe 2 (some .int)) (RM 0) (va_Pc ([.ref 61].map (cv al)) (WPre dC dI cA al sh σ sz)) (va_Qi Q (WPost dC dI cA al sh (AW al sh sz)) (AW al sh sz)) 0 0 (AW al sh sz) := by
  refine ww_met (Qc := fun A => va_Qi Q (WPost dC dI cA al sh A) A) (by decide +kernel) (Nat.le_of_ble_eq_true rfl) (fun p e s m args below meth c A C hr hlk => ?_)
  show WW p l e (RM 0) s m args below meth c (MQ below (va_Qi Q (WPost dC dI cA al sh A) A) args s 0 0 A) dC dI cA A 2 0 0 al sh 0 [(0, .ref 61)] [] σ
  unfold m_X9_wipe at h
  refine ww_aload_n C 0 rfl dX9_wipe_0 ?_
  refine ww_getI C (shc_61 hs) rfl inG9 6 (by decide) nq_158 rfl dX9_wipe_1 ?_
  refine ww_nmI h (fun y4 h => ?_)
  refine ww_istore_n (lv' := [(1, .int y4), (0, .ref 61)]) C dX9_wipe_4 rfl (by decide) rfl ?_
  refine ww_aload_n C 1 rfl dX9_wipe_5 ?_
  refine ww_iconst (v := 0) C dX9_wipe_6 (by decide) ?_
  refine ww_putI C (shc_61 hs) rfl inG9 6 (by decide) nq_158 tyX9 tyX9_ok nmX9 rfl (by decide +kernel) rfl dX9_wipe_7 h (fun σ7 h => ?_)
  refine ww_iload_n C 0 rfl dX9_wipe_10 ?_
  exact ww_iret C hr hlk h dX9_wipe_11
set_option maxRecDepth 100000 in
set_option maxHeartbeats 4000000 in
theorem c_X9_signOf {l : Launch} {dC : Nat → ClassId} {dI : Nat → Nat → Nat} {cA : Nat → ClassId} {al : Nat → Nat} {sh : List Kd} (hs : ShC sh) {σ : St} {a0 : Int32} {Q : Int32 → St → Prop} (h : m_X9_signOf σ a0 Q) : ∀ sz, Met l yX9_signOf (wd yX9_signOf cX9_signOf 1 (some .int)) (RM 0) (va_Pc ([.int a0].map (cv al)) (WPre dC dI cA al sh σ sz)) (va_Qi Q (WPost dC dI cA al sh (AW al sh sz)) (AW al sh sz)) 0 0 (AW al sh sz) := by
  refine ww_met (Qc := fun A => va_Qi Q (WPost dC dI cA al sh A) A) (by decide +kernel) (Nat.le_of_ble_eq_true rfl) (fun p e s m args below meth c A C hr hlk => ?_)
  show WW p l e (RM 0) s m args below meth c (MQ below (va_Qi Q (WPost dC dI cA al sh A) A) args s 0 0 A) dC dI cA A 1 0 0 al sh 0 [(0, .int a0)] [] σ
  unfold m_X9_signOf at h
  refine ww_iload_n C 0 rfl dX9_signOf_0 ?_
  by_cases hc102 : a0 = 102
  · refine ww_table (off := 97) (tgt := 98) C dX9_signOf_1 (by rw [hc102]; decide) (by rw [hc102]; decide) (by rw [hc102]; rfl) (by decide) ?_
    have h := h.1 hc102
    refine ww_iconst (v := 5) C dX9_signOf_98 (by decide) ?_
    exact ww_iret C hr hlk h dX9_signOf_99
  · skip
    by_cases hc106 : a0 = 106
    · refine ww_table (off := 99) (tgt := 100) C dX9_signOf_1 (by rw [hc106]; decide) (by rw [hc106]; decide) (by rw [hc106]; rfl) (by decide) ?_
      have h := h.2.1 hc106
      refine ww_bipush (v := 6) C dX9_signOf_100 (by decide) ?_
      exact ww_iret C hr hlk h dX9_signOf_102
    · skip
      by_cases hc108 : a0 = 108
      · refine ww_table (off := 87) (tgt := 88) C dX9_signOf_1 (by rw [hc108]; decide) (by rw [hc108]; decide) (by rw [hc108]; rfl) (by decide) ?_
        have h := h.2.2.1 hc108
        refine ww_iconst (v := 0) C dX9_signOf_88 (by decide) ?_
        exact ww_iret C hr hlk h dX9_signOf_89
      · skip
        by_cases hc114 : a0 = 114
        · refine ww_table (off := 93) (tgt := 94) C dX9_signOf_1 (by rw [hc114]; decide) (by rw [hc114]; decide) (by rw [hc114]; rfl) (by decide) ?_
          have h := h.2.2.2.1 hc114
          refine ww_iconst (v := 3) C dX9_signOf_94 (by decide) ?_
          exact ww_iret C hr hlk h dX9_signOf_95
        · skip
          by_cases hc115 : a0 = 115
          · refine ww_table (off := 89) (tgt := 90) C dX9_signOf_1 (by rw [hc115]; decide) (by rw [hc115]; decide) (by rw [hc115]; rfl) (by decide) ?_
            have h := h.2.2.2.2.1 hc115
            refine ww_iconst (v := 1) C dX9_signOf_90 (by decide) ?_
            exact ww_iret C hr hlk h dX9_signOf_91
          · skip
            by_cases hc117 : a0 = 117
            · refine ww_table (off := 91) (tgt := 92) C dX9_signOf_1 (by rw [hc117]; decide) (by rw [hc117]; decide) (by rw [hc117]; rfl) (by decide) ?_
              have h := h.2.2.2.2.2.1 hc117
              refine ww_iconst (v := 2) C dX9_signOf_92 (by decide) ?_
              exact ww_iret C hr hlk h dX9_signOf_93
            · skip
              by_cases hc119 : a0 = 119
              · refine ww_table (off := 95) (tgt := 96) C dX9_signOf_1 (by rw [hc119]; decide) (by rw [hc119]; decide) (by rw [hc119]; rfl) (by decide) ?_
                have h := h.2.2.2.2.2.2.1 hc119
                refine ww_iconst (v := 4) C dX9_signOf_96 (by decide) ?_
                exact ww_iret C hr hlk h dX9_signOf_97
              · skip
                refine ww_tabD (tgt := 103) C dX9_signOf_1 (tabD_ok [102, 106, 108, 114, 115, 117, 119] (by decide) (List.forall_mem_cons.mpr ⟨ne_toInt (n := 102) hc102, (List.forall_mem_cons.mpr ⟨ne_toInt (n := 106) hc106, (List.forall_mem_cons.mpr ⟨ne_toInt (n := 108) hc108, (List.forall_mem_cons.mpr ⟨ne_toInt (n := 114) hc114, (List.forall_mem_cons.mpr ⟨ne_toInt (n := 115) hc115, (List.forall_mem_cons.mpr ⟨ne_toInt (n := 117) hc117, (List.forall_mem_cons.mpr ⟨ne_toInt (n := 119) hc119, (fun _ h => absurd h List.not_mem_nil)⟩)⟩)⟩)⟩)⟩)⟩)⟩)) (by decide) ?_
                have h := h.2.2.2.2.2.2.2 ⟨hc102, hc106, hc108, hc114, hc115, hc117, hc119⟩
                refine ww_bipush (v := -9) C dX9_signOf_103 (by decide) ?_
                exact ww_iret C hr hlk h dX9_signOf_105
set_option maxRecDepth 100000 in
set_option maxHeartbeats 4000000 in
theorem c_X9_aboutBy {l : Launch} {dC : Nat → ClassId} {dI : Nat → Nat → Nat} {cA : Nat → ClassId} {al : Nat → Nat} {sh : List Kd} (hs : ShC sh) {σ : St} {a0 : Int32} {a1 : Int32} {Q : Int32 → St → Prop} (h : m_X9_aboutBy σ a0 a1 Q) : ∀ sz, Met l yX9_aboutBy (wd yX9_aboutBy cX9_aboutBy 2 (some .int)) (RM 0) (va_Pc ([.int a0, .int a1].map (cv al)) (WPre dC dI cA al sh σ sz)) (va_Qi Q (WPost dC dI cA al sh (AW al sh sz)) (AW al sh sz)) 0 0 (AW al sh sz) := by
  refine ww_met (Qc := fun A => va_Qi Q (WPost dC dI cA al sh A) A) (by decide +kernel) (Nat.le_of_ble_eq_true rfl) (fun p e s m args below meth c A C hr hlk => ?_)
  show WW p l e (RM 0) s m args below meth c (MQ below (va_Qi Q (WPost dC dI cA al sh A) A) args s 0 0 A) dC dI cA A 2 0 0 al sh 0 [(0, .int a0), (1, .int a1)] [] σ
  unfold m_X9_aboutBy at h
  refine ww_iload_n C 1 rfl dX9_aboutBy_0 ?_
  refine ww_iload_n C 0 rfl dX9_aboutBy_1 ?_
  refine ww_iconst (v := 3) C dX9_aboutBy_2 (by decide) ?_
  refine ww_icmp_ge (tgt := 11) C dX9_aboutBy_3 (by decide) (fun hc => ?_) (fun hc => ?_)
  · have h := h.1 hc
    refine ww_iload_n C 0 rfl dX9_aboutBy_11 ?_
    refine ww_iconst (v := 5) C dX9_aboutBy_12 (by decide) ?_
    refine ww_icmp_ge (tgt := 21) C dX9_aboutBy_13 (by decide) (fun hc => ?_) (fun hc => ?_)
    · have h := h.1 hc
      refine ww_bipush (v := 48) C dX9_aboutBy_21 (by decide) ?_
      refine ww_isub C dX9_aboutBy_23 ?_
      exact ww_iret C hr hlk h dX9_aboutBy_24
    · have h := h.2 hc
      refine ww_bipush (v := 97) C dX9_aboutBy_16 (by decide) ?_
      refine ww_goto (tgt := 23) C dX9_aboutBy_18 (by decide) ?_
      refine ww_isub C dX9_aboutBy_23 ?_
      exact ww_iret C hr hlk h dX9_aboutBy_24
  · have h := h.2 hc
    refine ww_bipush (v := 65) C dX9_aboutBy_6 (by decide) ?_
    refine ww_goto (tgt := 23) C dX9_aboutBy_8 (by decide) ?_
    refine ww_isub C dX9_aboutBy_23 ?_
    exact ww_iret C hr hlk h dX9_aboutBy_24
set_option maxRecDepth 100000 in
set_option maxHeartbeats 4000000 in
theorem w_X9_readText_J145 {p : Program} {l : Launch} {e : Env} {s : State} {m : MethodId} {args : Array Value} {below : List Frame} {meth : Method} {c : Code} {dC : Nat → ClassId} {dI : Nat → Nat → Nat} {cA : Nat → ClassId} {A : Nat → Prop} {al : Nat → Nat} {sh : List Kd} (C : Fx p s m args c cX9_readText 5 yX9_readText.cls dC dI cA A al) (hr : meth.sig.returnType = some .int) (hlk : meth.locks = false) (hs : ShC sh) {Q : Int32 → St → Prop} {K70 : St → Int32 → Prop} (hK70 : ∀ (σ : St) (x1 : Int32), K70 σ x1 → WW p l e (RM 4) s m args below meth c (MQ below (va_Qi Q (WPost dC dI cA al sh A) A) args s 0 0 A) dC dI cA A 5 0 0 al sh 70 [(1, .int x1)] [] σ) {K114 : St → Int32 → Prop} (hK114 : ∀ (σ : St) (x1 : Int32), K114 σ x1 → WW p l e (RM 4) s m args below meth c (MQ below (va_Qi Q (WPost dC dI cA al sh A) A) args s 0 0 A) dC dI cA A 5 0 0 al sh 114 [(1, .int x1)] [] σ) {K158 : St → Int32 → Prop} (hK158 : ∀ (σ : St) (x1 : Int32), K158 σ x1 → WW p l e (RM 4) s m args below meth c (MQ below (va_Qi Q (WPost dC dI cA al sh A) A) args s 0 0 A) dC dI cA A 5 0 0 al sh 158 [(1, .int x1)] [] σ) {K209 : St → Prop} (hK209 : ∀ (σ : St), K209 σ → WW p l e (RM 4) s m args below meth c (MQ below (va_Qi Q (WPost dC dI cA al sh A) A) args s 0 0 A) dC dI cA A 5 0 0 al sh 209 [] [] σ) {Rc : St → Int32 → Prop} (hRc : ∀ (σ : St) (x1 : Int32), Rc σ x1 → WW p l e (RM 4) s m args below meth c (MQ below (va_Qi Q (WPost dC dI cA al sh A) A) args s 0 0 A) dC dI cA A 5 0 0 al sh 33 [(0, .ref 61), (1, .int x1)] [] σ) {σ : St} {x1 : Int32} {x2 : Int32} {x3 : Int32} {t0 : Int32} (h : m_X9_readText_J145 Q K70 K114 K158 K209 Rc σ x1 x2 x3 t0) : WW p l e (RM 4) s m args below meth c (MQ below (va_Qi Q (WPost dC dI cA al sh A) A) args s 0 0 A) dC dI cA A 5 0 0 al sh 145 [(0, .ref 61), (1, .int x1), (2, .int x2), (3, .int x3)] [.int t0] σ := by
  unfold m_X9_readText_J145 at h
  refine ww_istore (lv' := [(4, .int t0), (0, .ref 61), (1, .int x1), (2, .int x2), (3, .int x3)]) C dX9_readText_145 (by decide) rfl ?_
  refine ww_aload_n C 1 rfl dX9_readText_147 ?_
  refine ww_iload_n C 3 rfl dX9_readText_148 ?_
  refine ww_iload_n C 4 rfl dX9_readText_149 ?_
  refine ww_iload C 0 rfl dX9_readText_150 ?_
  refine ww_vi (n := 3) (As := [.int x2, .int x3, .int t0]) (rest := []) C (c_X9_mayBe hs h) (shc_61 hs) rfl nq_254 nq_255 nq_256 nq_5 nq_257 (by decide +kernel) rfl rfl ⟨Nat.le_of_ble_eq_true rfl, Nat.le_of_ble_eq_true rfl, Nat.le_of_ble_eq_true rfl, Nat.le_of_ble_eq_true rfl⟩ (Nat.le_of_ble_eq_true rfl) dX9_readText_152 (fun r152 σ152 h => ?_)
  refine ww_if_ne (tgt := 162) C dX9_readText_155 (by decide) (fun hc => ?_) (fun hc => ?_)
  · have h := h.1 hc
    refine ww_aload_n C 1 rfl dX9_readText_162 ?_
    refine ww_iload_n C 3 rfl dX9_readText_163 ?_
    refine ww_iload_n C 4 rfl dX9_readText_164 ?_
    refine ww_iload C 0 rfl dX9_readText_165 ?_
    refine ww_vv (n := 3) (As := [.int x2, .int x3, .int t0]) (rest := []) C (c_X9_go hs h) (shc_61 hs) rfl nq_273 nq_274 nq_275 nq_5 nq_276 (by decide +kernel) rfl rfl ⟨Nat.le_of_ble_eq_true rfl, Nat.le_of_ble_eq_true rfl, Nat.le_of_ble_eq_true rfl, Nat.le_of_ble_eq_true rfl⟩ (Nat.le_of_ble_eq_true rfl) dX9_readText_167 (fun σ167 h => ?_)
    refine ww_aload_n C 1 rfl dX9_readText_170 ?_
    refine ww_getR C (shc_61 hs) rfl inG9 7 (by decide) nq_125 rfl dX9_readText_171 ?_
    refine ww_iconst (v := 0) C dX9_readText_174 (by decide) ?_
    refine ww_dup2 C rfl rfl dX9_readText_175 ?_
    refine ww_iald C (shc_66 hs) (by unfold vp_in; decide) dX9_readText_176 ?_
    refine ww_iconst (v := 1) C dX9_readText_177 (by decide) ?_
    refine ww_iadd C dX9_readText_178 ?_
    refine ww_iast C (shc_66 hs) h.1 dX9_readText_179 h.2 (fun σ179 h => ?_)
    refine ww_aload_n C 1 rfl dX9_readText_180 ?_
    refine ww_getR C (shc_61 hs) rfl inG9 7 (by decide) nq_125 rfl dX9_readText_181 ?_
    refine ww_aload_n C 1 rfl dX9_readText_184 ?_
    refine ww_getR C (shc_61 hs) rfl inG9 7 (by decide) nq_125 rfl dX9_readText_185 ?_
    refine ww_iconst (v := 0) C dX9_readText_188 (by decide) ?_
    refine ww_iald C (shc_66 hs) (by unfold vp_in; decide) dX9_readText_189 ?_
    refine ww_bipush (v := 100) C dX9_readText_190 (by decide) ?_
    refine ww_iload_n C 3 rfl dX9_readText_192 ?_
    refine ww_imul C dX9_readText_193 ?_
    refine ww_bipush (v := 10) C dX9_readText_194 (by decide) ?_
    refine ww_iload_n C 4 rfl dX9_readText_196 ?_
    refine ww_imul C dX9_readText_197 ?_
    refine ww_iadd C dX9_readText_198 ?_
    refine ww_iload C 0 rfl dX9_readText_199 ?_
    refine ww_iadd C dX9_readText_201 ?_
    refine ww_iast C (shc_66 hs) h.1 dX9_readText_202 h.2 (fun σ202 h => ?_)
    refine ww_iinc (v := (x1 + 3)) (lv' := [(1, .int (x1 + 3)), (4, .int t0), (0, .ref 61), (2, .int x2), (3, .int x3)]) C 2 rfl dX9_readText_203 rfl (by decide) rfl ?_
    refine ww_goto (tgt := 33) C dX9_readText_206 (by decide) ?_
    refine ww_sub [2, 0] rfl ?_
    exact hRc _ _ h
  · have h := h.2 hc
    refine ww_sub [2] rfl ?_
    exact hK158 _ _ h
set_option maxRecDepth 100000 in
set_option maxHeartbeats 4000000 in
theorem w_X9_readText_J98 {p : Program} {l : Launch} {e : Env} {s : State} {m : MethodId} {args : Array Value} {below : List Frame} {meth : Method} {c : Code} {dC : Nat → ClassId} {dI : Nat → Nat → Nat} {cA : Nat → ClassId} {A : Nat → Prop} {al : Nat → Nat} {sh : List Kd} (C : Fx p s m args c cX9_readText 5 yX9_readText.cls dC dI cA A al) (hr : meth.sig.returnType = some .int) (hlk : meth.locks = false) (hs : ShC sh) {Q : Int32 → St → Prop} {K70 : St → Int32 → Prop} (hK70 : ∀ (σ : St) (x1 : Int32), K70 σ x1 → WW p l e (RM 4) s m args below meth c (MQ below (va_Qi Q (WPost dC dI cA al sh A) A) args s 0 0 A) dC dI cA A 5 0 0 al sh 70 [(1, .int x1)] [] σ) {K114 : St → Int32 → Prop} (hK114 : ∀ (σ : St) (x1 : Int32), K114 σ x1 → WW p l e (RM 4) s m args below meth c (MQ below (va_Qi Q (WPost dC dI cA al sh A) A) args s 0 0 A) dC dI cA A 5 0 0 al sh 114 [(1, .int x1)] [] σ) {K158 : St → Int32 → Prop} (hK158 : ∀ (σ : St) (x1 : Int32), K158 σ x1 → WW p l e (RM 4) s m args below meth c (MQ below (va_Qi Q (WPost dC dI cA al sh A) A) args s 0 0 A) dC dI cA A 5 0 0 al sh 158 [(1, .int x1)] [] σ) {K209 : St → Prop} (hK209 : ∀ (σ : St), K209 σ → WW p l e (RM 4) s m args below meth c (MQ below (va_Qi Q (WPost dC dI cA al sh A) A) args s 0 0 A) dC dI cA A 5 0 0 al sh 209 [] [] σ) {Rc : St → Int32 → Prop} (hRc : ∀ (σ : St) (x1 : Int32), Rc σ x1 → WW p l e (RM 4) s m args below meth c (MQ below (va_Qi Q (WPost dC dI cA al sh A) A) args s 0 0 A) dC dI cA A 5 0 0 al sh 33 [(0, .ref 61), (1, .int x1)] [] σ) {σ : St} {x1 : Int32} {x2 : Int32} {t0 : Int32} (h : m_X9_readText_J98 Q K70 K114 K158 K209 Rc σ x1 x2 t0) : WW p l e (RM 4) s m args below meth c (MQ below (va_Qi Q (WPost dC dI cA al sh A) A) args s 0 0 A) dC dI cA A 5 0 0 al sh 98 [(0, .ref 61), (1, .int x1), (2, .int x2)] [.int t0] σ := by
  unfold m_X9_readText_J98 at h
  refine ww_istore_n (lv' := [(3, .int t0), (0, .ref 61), (1, .int x1), (2, .int x2)]) C dX9_readText_98 rfl (by decide) rfl ?_
  refine ww_iload_n C 0 rfl dX9_readText_99 ?_
  refine ww_bipush (v := -9) C dX9_readText_100 (by decide) ?_
  refine ww_icmp_eq (tgt := 114) C dX9_readText_102 (by decide) (fun hc => ?_) (fun hc => ?_)
  · have h := h.1 hc
    refine ww_sub [2] rfl ?_
    exact hK114 _ _ h
  · have h := h.2 hc
    refine ww_aload_n C 1 rfl dX9_readText_105 ?_
    refine ww_iload_n C 3 rfl dX9_readText_106 ?_
    refine ww_iload_n C 0 rfl dX9_readText_107 ?_
    refine ww_vi (n := 2) (As := [.int x2, .int t0]) (rest := []) C (c_X9_mayAny hs h) (shc_61 hs) rfl nq_250 nq_251 nq_252 nq_5 nq_253 (by decide +kernel) rfl rfl ⟨Nat.le_of_ble_eq_true rfl, Nat.le_of_ble_eq_true rfl, Nat.le_of_ble_eq_true rfl, Nat.le_of_ble_eq_true rfl⟩ (Nat.le_of_ble_eq_true rfl) dX9_readText_108 (fun r108 σ108 h => ?_)
    refine ww_if_ne (tgt := 118) C dX9_readText_111 (by decide) (fun hc => ?_) (fun hc => ?_)
    · have h := h.1 hc
      refine ww_iload_n C 2 rfl dX9_readText_118 ?_
      refine ww_iconst (v := 2) C dX9_readText_119 (by decide) ?_
      refine ww_iadd C dX9_readText_120 ?_
      refine ww_aload_n C 1 rfl dX9_readText_121 ?_
      refine ww_getI C (shc_61 hs) rfl inG9 6 (by decide) nq_158 rfl dX9_readText_122 ?_
      refine ww_icmp_ge (tgt := 143) C dX9_readText_125 (by decide) (fun hc => ?_) (fun hc => ?_)
      · have h := h.1 hc
        refine ww_bipush (v := -9) C dX9_readText_143 (by decide) ?_
        refine ww_sub [1, 2, 3, 0] rfl ?_
        exact w_X9_readText_J145 (Q := Q) C hr hlk hs hK70 hK114 hK158 hK209 hRc h
      · have h := h.2 hc
        refine ww_iload_n C 0 rfl dX9_readText_128 ?_
        refine ww_aload_n C 1 rfl dX9_readText_129 ?_
        refine ww_getR C (shc_61 hs) rfl inG9 5 (by decide) nq_124 rfl dX9_readText_130 ?_
        refine ww_iload_n C 2 rfl dX9_readText_133 ?_
        refine ww_iconst (v := 2) C dX9_readText_134 (by decide) ?_
        refine ww_iadd C dX9_readText_135 ?_
        refine ww_iald C (shc_65 hs) h.1 dX9_readText_136 ?_
        have h := h.2
        refine ww_si (n := 2) (As := [.int t0, .int (σ108.1 65 (x1 + 2).toNatClampNeg)]) (rest := []) C (c_X9_aboutBy hs h) nq_270 nq_271 nq_5 nq_272 (by decide +kernel) rfl rfl ⟨Nat.le_of_ble_eq_true rfl, Nat.le_of_ble_eq_true rfl, Nat.le_of_ble_eq_true rfl, Nat.le_of_ble_eq_true rfl⟩ (Nat.le_of_ble_eq_true rfl) dX9_readText_137 (fun r137 σ137 h => ?_)
        refine ww_goto (tgt := 145) C dX9_readText_140 (by decide) ?_
        refine ww_sub [1, 2, 3, 0] rfl ?_
        exact w_X9_readText_J145 (Q := Q) C hr hlk hs hK70 hK114 hK158 hK209 hRc h
    · have h := h.2 hc
      refine ww_sub [2] rfl ?_
      exact hK114 _ _ h
set_option maxRecDepth 100000 in
set_option maxHeartbeats 4000000 in
theorem w_X9_readText_L33b {p : Program} {l : Launch} {e : Env} {s : State} {m : MethodId} {args : Array Value} {below : List Frame} {meth : Method} {c : Code} {dC : Nat → ClassId} {dI : Nat → Nat → Nat} {cA : Nat → ClassId} {A : Nat → Prop} {al : Nat → Nat} {sh : List Kd} (C : Fx p s m args c cX9_readText 5 yX9_readText.cls dC dI cA A al) (hr : meth.sig.returnType = some .int) (hlk : meth.locks = false) (hs : ShC sh) {Q : Int32 → St → Prop} {K70 : St → Int32 → Prop} (hK70 : ∀ (σ : St) (x1 : Int32), K70 σ x1 → WW p l e (RM 4) s m args below meth c (MQ below (va_Qi Q (WPost dC dI cA al sh A) A) args s 0 0 A) dC dI cA A 5 0 0 al sh 70 [(1, .int x1)] [] σ) {K114 : St → Int32 → Prop} (hK114 : ∀ (σ : St) (x1 : Int32), K114 σ x1 → WW p l e (RM 4) s m args below meth c (MQ below (va_Qi Q (WPost dC dI cA al sh A) A) args s 0 0 A) dC dI cA A 5 0 0 al sh 114 [(1, .int x1)] [] σ) {K158 : St → Int32 → Prop} (hK158 : ∀ (σ : St) (x1 : Int32), K158 σ x1 → WW p l e (RM 4) s m args below meth c (MQ below (va_Qi Q (WPost dC dI cA al sh A) A) args s 0 0 A) dC dI cA A 5 0 0 al sh 158 [(1, .int x1)] [] σ) {K209 : St → Prop} (hK209 : ∀ (σ : St), K209 σ → WW p l e (RM 4) s m args below meth c (MQ below (va_Qi Q (WPost dC dI cA al sh A) A) args s 0 0 A) dC dI cA A 5 0 0 al sh 209 [] [] σ) {Rc : St → Int32 → Prop} (hRc : ∀ (σ : St) (x1 : Int32), Rc σ x1 → WW p l e (RM 4) s m args below meth c (MQ below (va_Qi Q (WPost dC dI cA al sh A) A) args s 0 0 A) dC dI cA A 5 0 0 al sh 33 [(0, .ref 61), (1, .int x1)] [] σ) {σ : St} {x1 : Int32} (h : m_X9_readText_L33b Q K70 K114 K158 K209 Rc σ x1) : WW p l e (RM 4) s m args below meth c (MQ below (va_Qi Q (WPost dC dI cA al sh A) A) args s 0 0 A) dC dI cA A 5 0 0 al sh 33 [(0, .ref 61), (1, .int x1)] [] σ := by
  unfold m_X9_readText_L33b at h
  refine ww_iload_n C 1 rfl dX9_readText_33 ?_
  refine ww_aload_n C 0 rfl dX9_readText_34 ?_
  refine ww_getI C (shc_61 hs) rfl inG9 6 (by decide) nq_158 rfl dX9_readText_35 ?_
  refine ww_icmp_ge (tgt := 209) C dX9_readText_38 (by decide) (fun hc => ?_) (fun hc => ?_)
  · have h := h.1 hc
    refine ww_sub [] rfl ?_
    exact hK209 _ h
  · have h := h.2 hc
    refine ww_aload_n C 0 rfl dX9_readText_41 ?_
    refine ww_getR C (shc_61 hs) rfl inG9 5 (by decide) nq_124 rfl dX9_readText_42 ?_
    refine ww_iload_n C 1 rfl dX9_readText_45 ?_
    refine ww_iald C (shc_65 hs) h.1 dX9_readText_46 ?_
    have h := h.2
    refine ww_bipush (v := 48) C dX9_readText_47 (by decide) ?_
    refine ww_isub C dX9_readText_49 ?_
    refine ww_nmI h (fun y50 h => ?_)
    refine ww_istore_n (lv' := [(2, .int y50), (0, .ref 61), (1, .int x1)]) C dX9_readText_50 rfl (by decide) rfl ?_
    refine ww_aload_n C 1 rfl dX9_readText_51 ?_
    refine ww_getR C (shc_61 hs) rfl inG9 7 (by decide) nq_125 rfl dX9_readText_52 ?_
    refine ww_iconst (v := 0) C dX9_readText_55 (by decide) ?_
    refine ww_iald C (shc_66 hs) (by unfold vp_in; decide) dX9_readText_56 ?_
    refine ww_bipush (v := 20) C dX9_readText_57 (by decide) ?_
    refine ww_icmp_eq (tgt := 70) C dX9_readText_59 (by decide) (fun hc => ?_) (fun hc => ?_)
    · have h := h.1 hc
      refine ww_sub [2] rfl ?_
      exact hK70 _ _ h
    · have h := h.2 hc
      refine ww_aload_n C 1 rfl dX9_readText_62 ?_
      refine ww_iload_n C 0 rfl dX9_readText_63 ?_
      refine ww_vi (n := 1) (As := [.int y50]) (rest := []) C (c_X9_isRunning hs h) (shc_61 hs) rfl nq_239 nq_240 nq_241 nq_5 nq_242 (by decide +kernel) rfl rfl ⟨Nat.le_of_ble_eq_true rfl, Nat.le_of_ble_eq_true rfl, Nat.le_of_ble_eq_true rfl, Nat.le_of_ble_eq_true rfl⟩ (Nat.le_of_ble_eq_true rfl) dX9_readText_64 (fun r64 σ64 h => ?_)
      refine ww_if_ne (tgt := 72) C dX9_readText_67 (by decide) (fun hc => ?_) (fun hc => ?_)
      · have h := h.1 hc
        refine ww_iload_n C 2 rfl dX9_readText_72 ?_
        refine ww_iconst (v := 1) C dX9_readText_73 (by decide) ?_
        refine ww_iadd C dX9_readText_74 ?_
        refine ww_aload_n C 1 rfl dX9_readText_75 ?_
        refine ww_getI C (shc_61 hs) rfl inG9 6 (by decide) nq_158 rfl dX9_readText_76 ?_
        refine ww_icmp_ge (tgt := 96) C dX9_readText_79 (by decide) (fun hc => ?_) (fun hc => ?_)
        · have h := h.1 hc
          refine ww_bipush (v := -9) C dX9_readText_96 (by decide) ?_
          refine ww_sub [1, 2, 0] rfl ?_
          exact w_X9_readText_J98 (Q := Q) C hr hlk hs hK70 hK114 hK158 hK209 hRc h
        · have h := h.2 hc
          refine ww_aload_n C 1 rfl dX9_readText_82 ?_
          refine ww_getR C (shc_61 hs) rfl inG9 5 (by decide) nq_124 rfl dX9_readText_83 ?_
          refine ww_iload_n C 2 rfl dX9_readText_86 ?_
          refine ww_iconst (v := 1) C dX9_readText_87 (by decide) ?_
          refine ww_iadd C dX9_readText_88 ?_
          refine ww_iald C (shc_65 hs) h.1 dX9_readText_89 ?_
          have h := h.2
          refine ww_si (n := 1) (As := [.int (σ64.1 65 (x1 + 1).toNatClampNeg)]) (rest := []) C (c_X9_signOf hs h) nq_247 nq_248 nq_5 nq_249 (by decide +kernel) rfl rfl ⟨Nat.le_of_ble_eq_true rfl, Nat.le_of_ble_eq_true rfl, Nat.le_of_ble_eq_true rfl, Nat.le_of_ble_eq_true rfl⟩ (Nat.le_of_ble_eq_true rfl) dX9_readText_90 (fun r90 σ90 h => ?_)
          refine ww_goto (tgt := 98) C dX9_readText_93 (by decide) ?_
          refine ww_sub [1, 2, 0] rfl ?_
          exact w_X9_readText_J98 (Q := Q) C hr hlk hs hK70 hK114 hK158 hK209 hRc h
      · have h := h.2 hc
        refine ww_sub [2] rfl ?_
        exact hK70 _ _ h
set_option maxRecDepth 100000 in
set_option maxHeartbeats 4000000 in
theorem w_X9_readText_L33 {p : Program} {l : Launch} {e : Env} {s : State} {m : MethodId} {args : Array Value} {below : List Frame} {meth : Method} {c : Code} {dC : Nat → ClassId} {dI : Nat → Nat → Nat} {cA : Nat → ClassId} {A : Nat → Prop} {al : Nat → Nat} {sh : List Kd} (C : Fx p s m args c cX9_readText 5 yX9_readText.cls dC dI cA A al) (hr : meth.sig.returnType = some .int) (hlk : meth.locks = false) (hs : ShC sh) {Q : Int32 → St → Prop} {K70 : St → Int32 → Prop} (hK70 : ∀ (σ : St) (x1 : Int32), K70 σ x1 → WW p l e (RM 4) s m args below meth c (MQ below (va_Qi Q (WPost dC dI cA al sh A) A) args s 0 0 A) dC dI cA A 5 0 0 al sh 70 [(1, .int x1)] [] σ) {K114 : St → Int32 → Prop} (hK114 : ∀ (σ : St) (x1 : Int32), K114 σ x1 → WW p l e (RM 4) s m args below meth c (MQ below (va_Qi Q (WPost dC dI cA al sh A) A) args s 0 0 A) dC dI cA A 5 0 0 al sh 114 [(1, .int x1)] [] σ) {K158 : St → Int32 → Prop} (hK158 : ∀ (σ : St) (x1 : Int32), K158 σ x1 → WW p l e (RM 4) s m args below meth c (MQ below (va_Qi Q (WPost dC dI cA al sh A) A) args s 0 0 A) dC dI cA A 5 0 0 al sh 158 [(1, .int x1)] [] σ) {K209 : St → Prop} (hK209 : ∀ (σ : St), K209 σ → WW p l e (RM 4) s m args below meth c (MQ below (va_Qi Q (WPost dC dI cA al sh A) A) args s 0 0 A) dC dI cA A 5 0 0 al sh 209 [] [] σ) : ∀ (f : Nat) (σ : St) (x1 : Int32), m_X9_readText_L33 Q K70 K114 K158 K209 f σ x1 → WW p l e (RM 4) s m args below meth c (MQ below (va_Qi Q (WPost dC dI cA al sh A) A) args s 0 0 A) dC dI cA A 5 0 0 al sh 33 [(0, .ref 61), (1, .int x1)] [] σ := by
  intro f
  induction f with
  | zero => intro σ x1 h; exact False.elim h
  | succ f ih => intro σ x1 h; exact w_X9_readText_L33b (Q := Q) C hr hlk hs hK70 hK114 hK158 hK209 ih h
set_option maxRecDepth 100000 in
set_option maxHeartbeats 4000000 in
theorem w_X9_readText_J70 {p : Program} {l : Launch} {e : Env} {s : State} {m : MethodId} {args : Array Value} {below : List Frame} {meth : Method} {c : Code} {dC : Nat → ClassId} {dI : Nat → Nat → Nat} {cA : Nat → ClassId} {A : Nat → Prop} {al : Nat → Nat} {sh : List Kd} (C : Fx p s m args c cX9_readText 5 yX9_readText.cls dC dI cA A al) (hr : meth.sig.returnType = some .int) (hlk : meth.locks = false) (hs : ShC sh) {Q : Int32 → St → Prop} {σ : St} {x1 : Int32} (h : m_X9_readText_J70 Q σ x1) : WW p l e (RM 4) s m args below meth c (MQ below (va_Qi Q (WPost dC dI cA al sh A) A) args s 0 0 A) dC dI cA A 5 0 0 al sh 70 [(1, .int x1)] [] σ := by
  unfold m_X9_readText_J70 at h
  refine ww_iload_n C 0 rfl dX9_readText_70 ?_
  exact ww_iret C hr hlk h dX9_readText_71
set_option maxRecDepth 100000 in
set_option maxHeartbeats 4000000 in
theorem w_X9_readText_J114 {p : Program} {l : Launch} {e : Env} {s : State} {m : MethodId} {args : Array Value} {below : List Frame} {meth : Method} {c : Code} {dC : Nat → ClassId} {dI : Nat → Nat → Nat} {cA : Nat → ClassId} {A : Nat → Prop} {al : Nat → Nat} {sh : List Kd} (C : Fx p s m args c cX9_readText 5 yX9_readText.cls dC dI cA A al) (hr : meth.sig.returnType = some .int) (hlk : meth.locks = false) (hs : ShC sh) {Q : Int32 → St → Prop} {σ : St} {x1 : Int32} (h : m_X9_readText_J114 Q σ x1) : WW p l e (RM 4) s m args below meth c (MQ below (va_Qi Q (WPost dC dI cA al sh A) A) args s 0 0 A) dC dI cA A 5 0 0 al sh 114 [(1, .int x1)] [] σ := by
  unfold m_X9_readText_J114 at h
  refine ww_iload_n C 0 rfl dX9_readText_114 ?_
  refine ww_iconst (v := 1) C dX9_readText_115 (by decide) ?_
  refine ww_iadd C dX9_readText_116 ?_
  exact ww_iret C hr hlk h dX9_readText_117
set_option maxRecDepth 100000 in
set_option maxHeartbeats 4000000 in
theorem w_X9_readText_J158 {p : Program} {l : Launch} {e : Env} {s : State} {m : MethodId} {args : Array Value} {below : List Frame} {meth : Method} {c : Code} {dC : Nat → ClassId} {dI : Nat → Nat → Nat} {cA : Nat → ClassId} {A : Nat → Prop} {al : Nat → Nat} {sh : List Kd} (C : Fx p s m args c cX9_readText 5 yX9_readText.cls dC dI cA A al) (hr : meth.sig.returnType = some .int) (hlk : meth.locks = false) (hs : ShC sh) {Q : Int32 → St → Prop} {σ : St} {x1 : Int32} (h : m_X9_readText_J158 Q σ x1) : WW p l e (RM 4) s m args below meth c (MQ below (va_Qi Q (WPost dC dI cA al sh A) A) args s 0 0 A) dC dI cA A 5 0 0 al sh 158 [(1, .int x1)] [] σ := by
  unfold m_X9_readText_J158 at h
  refine ww_iload_n C 0 rfl dX9_readText_158 ?_
  refine ww_iconst (v := 2) C dX9_readText_159 (by decide) ?_
  refine ww_iadd C dX9_readText_160 ?_
  exact ww_iret C hr hlk h dX9_readText_161
set_option maxRecDepth 100000 in
set_option maxHeartbeats 4000000 in
theorem w_X9_readText_J209 {p : Program} {l : Launch} {e : Env} {s : State} {m : MethodId} {args : Array Value} {below : List Frame} {meth : Method} {c : Code} {dC : Nat → ClassId} {dI : Nat → Nat → Nat} {cA : Nat → ClassId} {A : Nat → Prop} {al : Nat → Nat} {sh : List Kd} (C : Fx p s m args c cX9_readText 5 yX9_readText.cls dC dI cA A al) (hr : meth.sig.returnType = some .int) (hlk : meth.locks = false) (hs : ShC sh) {Q : Int32 → St → Prop} {σ : St} (h : m_X9_readText_J209 Q σ) : WW p l e (RM 4) s m args below meth c (MQ below (va_Qi Q (WPost dC dI cA al sh A) A) args s 0 0 A) dC dI cA A 5 0 0 al sh 209 [] [] σ := by
  unfold m_X9_readText_J209 at h
  refine ww_bipush (v := -9) C dX9_readText_209 (by decide) ?_
  exact ww_iret C hr hlk h dX9_readText_211
set_option maxRecDepth 100000 in
set_option maxHeartbeats 4000000 in
theorem c_X9_readText {l : Launch} {dC : Nat → ClassId} {dI : Nat → Nat → Nat} {cA : Nat → ClassId} {al : Nat → Nat} {sh : List Kd} (hs : ShC sh) {σ : St} {Q : Int32 → St → Prop} (h : m_X9_readText σ Q) : ∀ sz, Met l yX9_readText (wd yX9_readText cX9_readText 5 (some .int)) (RM 4) (va_Pc ([.ref 61].map (cv al)) (WPre dC dI cA al sh σ sz)) (va_Qi Q (WPost dC dI cA al sh (AW al sh sz)) (AW al sh sz)) 0 0 (AW al sh sz) := by
  refine ww_met (Qc := fun A => va_Qi Q (WPost dC dI cA al sh A) A) (by decide +kernel) (Nat.le_of_ble_eq_true rfl) (fun p e s m args below meth c A C hr hlk => ?_)
  show WW p l e (RM 4) s m args below meth c (MQ below (va_Qi Q (WPost dC dI cA al sh A) A) args s 0 0 A) dC dI cA A 5 0 0 al sh 0 [(0, .ref 61)] [] σ
  unfold m_X9_readText at h
  refine ww_aload_n C 0 rfl dX9_readText_0 ?_
  refine ww_getR C (shc_61 hs) rfl inG9 7 (by decide) nq_125 rfl dX9_readText_1 ?_
  refine ww_iconst (v := 0) C dX9_readText_4 (by decide) ?_
  refine ww_iconst (v := 0) C dX9_readText_5 (by decide) ?_
  refine ww_iast C (shc_66 hs) h.1 dX9_readText_6 h.2 (fun σ6 h => ?_)
  refine ww_aload_n C 0 rfl dX9_readText_7 ?_
  refine ww_vv (n := 0) (As := []) (rest := []) C (c_X9_begin hs h) (shc_61 hs) rfl nq_233 nq_234 nq_235 nq_5 nq_236 (by decide +kernel) rfl rfl ⟨Nat.le_of_ble_eq_true rfl, Nat.le_of_ble_eq_true rfl, Nat.le_of_ble_eq_true rfl, Nat.le_of_ble_eq_true rfl⟩ (Nat.le_of_ble_eq_true rfl) dX9_readText_8 (fun σ8 h => ?_)
  refine ww_aload_n C 0 rfl dX9_readText_11 ?_
  refine ww_getI C (shc_61 hs) rfl inG9 6 (by decide) nq_158 rfl dX9_readText_12 ?_
  refine ww_if_eq (tgt := 29) C dX9_readText_15 (by decide) (fun hc => ?_) (fun hc => ?_)
  · have h := h.1 hc
    refine ww_iconst (v := 0) C dX9_readText_29 (by decide) ?_
    exact ww_iret C hr hlk h dX9_readText_30
  · have h := h.2 hc
    refine ww_aload_n C 0 rfl dX9_readText_18 ?_
    refine ww_getR C (shc_61 hs) rfl inG9 5 (by decide) nq_124 rfl dX9_readText_19 ?_
    refine ww_iconst (v := 0) C dX9_readText_22 (by decide) ?_
    refine ww_iald C (shc_65 hs) (by unfold vp_in; decide) dX9_readText_23 ?_
    refine ww_bipush (v := 84) C dX9_readText_24 (by decide) ?_
    refine ww_icmp_eq (tgt := 31) C dX9_readText_26 (by decide) (fun hc => ?_) (fun hc => ?_)
    · have h := h.1 hc
      refine ww_iconst (v := 1) C dX9_readText_31 (by decide) ?_
      refine ww_istore_n (lv' := [(1, .int 1), (0, .ref 61)]) C dX9_readText_32 rfl (by decide) rfl ?_
      refine ww_sub [1, 0] rfl ?_
      obtain ⟨f, h⟩ := h
      exact w_X9_readText_L33 (Q := Q) C hr hlk hs (fun σ x1 h => by exact w_X9_readText_J70 (Q := Q) C hr hlk hs h) (fun σ x1 h => by exact w_X9_readText_J114 (Q := Q) C hr hlk hs h) (fun σ x1 h => by exact w_X9_readText_J158 (Q := Q) C hr hlk hs h) (fun σ h => by exact w_X9_readText_J209 (Q := Q) C hr hlk hs h) f _ _ h
    · have h := h.2 hc
      refine ww_iconst (v := 0) C dX9_readText_29 (by decide) ?_
      exact ww_iret C hr hlk h dX9_readText_30
set_option maxRecDepth 100000 in
set_option maxHeartbeats 4000000 in
theorem c_X9_fault {l : Launch} {dC : Nat → ClassId} {dI : Nat → Nat → Nat} {cA : Nat → ClassId} {al : Nat → Nat} {sh : List Kd} (hs : ShC sh) {σ : St} {Q : Int32 → St → Prop} (h : m_X9_fault σ Q) : ∀ sz, Met l yX9_fault (wd yX9_fault cX9_fault 1 (some .int)) (RM 5) (va_Pc ([.ref 61].map (cv al)) (WPre dC dI cA al sh σ sz)) (va_Qi Q (WPost dC dI cA al sh (AW al sh sz)) (AW al sh sz)) 0 0 (AW al sh sz) := by
  refine ww_met (Qc := fun A => va_Qi Q (WPost dC dI cA al sh A) A) (by decide +kernel) (Nat.le_of_ble_eq_true rfl) (fun p e s m args below meth c A C hr hlk => ?_)
  show WW p l e (RM 5) s m args below meth c (MQ below (va_Qi Q (WPost dC dI cA al sh A) A) args s 0 0 A) dC dI cA A 1 0 0 al sh 0 [(0, .ref 61)] [] σ
  unfold m_X9_fault at h
  refine ww_aload_n C 0 rfl dX9_fault_0 ?_
  refine ww_vi (n := 0) (As := []) (rest := []) C (c_X9_readText hs h) (shc_61 hs) rfl nq_229 nq_230 nq_231 nq_5 nq_232 (by decide +kernel) rfl rfl ⟨Nat.le_of_ble_eq_true rfl, Nat.le_of_ble_eq_true rfl, Nat.le_of_ble_eq_true rfl, Nat.le_of_ble_eq_true rfl⟩ (Nat.le_of_ble_eq_true rfl) dX9_fault_1 (fun r1 σ1 h => ?_)
  exact ww_iret C hr hlk h dX9_fault_4
set_option maxRecDepth 100000 in
set_option maxHeartbeats 4000000 in
theorem w_X9_trace_L14b {p : Program} {l : Launch} {e : Env} {s : State} {m : MethodId} {args : Array Value} {below : List Frame} {meth : Method} {c : Code} {dC : Nat → ClassId} {dI : Nat → Nat → Nat} {cA : Nat → ClassId} {A : Nat → Prop} {al : Nat → Nat} {sh : List Kd} (C : Fx p s m args c cX9_trace 2 yX9_trace.cls dC dI cA A al) (hr : meth.sig.returnType = some .int) (hlk : meth.locks = false) (hs : ShC sh) {Q : Int32 → St → Prop} {K38 : St → Prop} (hK38 : ∀ (σ : St), K38 σ → WW p l e (RM 5) s m args below meth c (MQ below (va_Qi Q (WPost dC dI cA al sh A) A) args s 0 0 A) dC dI cA A 2 0 0 al sh 38 [(0, .ref 61)] [] σ) {Rc : St → Int32 → Prop} (hRc : ∀ (σ : St) (x1 : Int32), Rc σ x1 → WW p l e (RM 5) s m args below meth c (MQ below (va_Qi Q (WPost dC dI cA al sh A) A) args s 0 0 A) dC dI cA A 2 0 0 al sh 14 [(0, .ref 61), (1, .int x1)] [] σ) {σ : St} {x1 : Int32} (h : m_X9_trace_L14b Q K38 Rc σ x1) : WW p l e (RM 5) s m args below meth c (MQ below (va_Qi Q (WPost dC dI cA al sh A) A) args s 0 0 A) dC dI cA A 2 0 0 al sh 14 [(0, .ref 61), (1, .int x1)] [] σ := by
  unfold m_X9_trace_L14b at h
  refine ww_iload_n C 1 rfl dX9_trace_14 ?_
  refine ww_bipush (v := 21) C dX9_trace_15 (by decide) ?_
  refine ww_icmp_ge (tgt := 38) C dX9_trace_17 (by decide) (fun hc => ?_) (fun hc => ?_)
  · have h := h.1 hc
    refine ww_sub [0] rfl ?_
    exact hK38 _ h
  · have h := h.2 hc
    refine ww_aload_n C 0 rfl dX9_trace_20 ?_
    refine ww_getR C (shc_61 hs) rfl inG9 4 (by decide) nq_123 rfl dX9_trace_21 ?_
    refine ww_iload_n C 1 rfl dX9_trace_24 ?_
    refine ww_aload_n C 0 rfl dX9_trace_25 ?_
    refine ww_getR C (shc_61 hs) rfl inG9 7 (by decide) nq_125 rfl dX9_trace_26 ?_
    refine ww_iload_n C 1 rfl dX9_trace_29 ?_
    refine ww_iald C (shc_66 hs) h.1 dX9_trace_30 ?_
    have h := h.2
    refine ww_iast C (shc_64 hs) h.1 dX9_trace_31 h.2 (fun σ31 h => ?_)
    refine ww_iinc (v := (x1 + 1)) (lv' := [(1, .int (x1 + 1)), (0, .ref 61)]) C 1 rfl dX9_trace_32 rfl (by decide) rfl ?_
    refine ww_goto (tgt := 14) C dX9_trace_35 (by decide) ?_
    refine ww_sub [1, 0] rfl ?_
    exact hRc _ _ h
set_option maxRecDepth 100000 in
set_option maxHeartbeats 4000000 in
theorem w_X9_trace_L14 {p : Program} {l : Launch} {e : Env} {s : State} {m : MethodId} {args : Array Value} {below : List Frame} {meth : Method} {c : Code} {dC : Nat → ClassId} {dI : Nat → Nat → Nat} {cA : Nat → ClassId} {A : Nat → Prop} {al : Nat → Nat} {sh : List Kd} (C : Fx p s m args c cX9_trace 2 yX9_trace.cls dC dI cA A al) (hr : meth.sig.returnType = some .int) (hlk : meth.locks = false) (hs : ShC sh) {Q : Int32 → St → Prop} {K38 : St → Prop} (hK38 : ∀ (σ : St), K38 σ → WW p l e (RM 5) s m args below meth c (MQ below (va_Qi Q (WPost dC dI cA al sh A) A) args s 0 0 A) dC dI cA A 2 0 0 al sh 38 [(0, .ref 61)] [] σ) : ∀ (f : Nat) (σ : St) (x1 : Int32), m_X9_trace_L14 Q K38 f σ x1 → WW p l e (RM 5) s m args below meth c (MQ below (va_Qi Q (WPost dC dI cA al sh A) A) args s 0 0 A) dC dI cA A 2 0 0 al sh 14 [(0, .ref 61), (1, .int x1)] [] σ := by
  intro f
  induction f with
  | zero => intro σ x1 h; exact False.elim h
  | succ f ih => intro σ x1 h; exact w_X9_trace_L14b (Q := Q) C hr hlk hs hK38 ih h
set_option maxRecDepth 100000 in
set_option maxHeartbeats 4000000 in
theorem w_X9_trace_J38 {p : Program} {l : Launch} {e : Env} {s : State} {m : MethodId} {args : Array Value} {below : List Frame} {meth : Method} {c : Code} {dC : Nat → ClassId} {dI : Nat → Nat → Nat} {cA : Nat → ClassId} {A : Nat → Prop} {al : Nat → Nat} {sh : List Kd} (C : Fx p s m args c cX9_trace 2 yX9_trace.cls dC dI cA A al) (hr : meth.sig.returnType = some .int) (hlk : meth.locks = false) (hs : ShC sh) {Q : Int32 → St → Prop} {σ : St} (h : m_X9_trace_J38 Q σ) : WW p l e (RM 5) s m args below meth c (MQ below (va_Qi Q (WPost dC dI cA al sh A) A) args s 0 0 A) dC dI cA A 2 0 0 al sh 38 [(0, .ref 61)] [] σ := by
  unfold m_X9_trace_J38 at h
  refine ww_aload_n C 0 rfl dX9_trace_38 ?_
  refine ww_iconst (v := 0) C dX9_trace_39 (by decide) ?_
  refine ww_putI C (shc_61 hs) rfl inG9 10 (by decide) nq_290 tyX9 tyX9_ok nmX9 rfl (by decide +kernel) rfl dX9_trace_40 h (fun σ40 h => ?_)
  refine ww_aload_n C 0 rfl dX9_trace_43 ?_
  refine ww_getR C (shc_61 hs) rfl inG9 37 (by decide) nq_142 rfl dX9_trace_44 ?_
  refine ww_iconst (v := 0) C dX9_trace_47 (by decide) ?_
  refine ww_iconst (v := 0) C dX9_trace_48 (by decide) ?_
  refine ww_zast C (shc_83 hs) h.1 dX9_trace_49 h.2 (fun σ49 h => ?_)
  refine ww_aload_n C 0 rfl dX9_trace_50 ?_
  refine ww_getR C (shc_61 hs) rfl inG9 37 (by decide) nq_142 rfl dX9_trace_51 ?_
  refine ww_iconst (v := 1) C dX9_trace_54 (by decide) ?_
  refine ww_iconst (v := 0) C dX9_trace_55 (by decide) ?_
  refine ww_zast C (shc_83 hs) h.1 dX9_trace_56 h.2 (fun σ56 h => ?_)
  refine ww_aload_n C 0 rfl dX9_trace_57 ?_
  refine ww_iconst (v := 0) C dX9_trace_58 (by decide) ?_
  refine ww_vi (n := 1) (As := [.int 0]) (rest := []) C (c_X9_many hs h) (shc_61 hs) rfl nq_291 nq_292 nq_293 nq_5 nq_294 (by decide +kernel) rfl rfl ⟨Nat.le_of_ble_eq_true rfl, Nat.le_of_ble_eq_true rfl, Nat.le_of_ble_eq_true rfl, Nat.le_of_ble_eq_true rfl⟩ (Nat.le_of_ble_eq_true rfl) dX9_trace_59 (fun r59 σ59 h => ?_)
  exact ww_iret C hr hlk h dX9_trace_62
set_option maxRecDepth 100000 in
set_option maxHeartbeats 4000000 in
theorem c_X9_trace {l : Launch} {dC : Nat → ClassId} {dI : Nat → Nat → Nat} {cA : Nat → ClassId} {al : Nat → Nat} {sh : List Kd} (hs : ShC sh) {σ : St} {Q : Int32 → St → Prop} (h : m_X9_trace σ Q) : ∀ sz, Met l yX9_trace (wd yX9_trace cX9_trace 2 (some .int)) (RM 5) (va_Pc ([.ref 61].map (cv al)) (WPre dC dI cA al sh σ sz)) (va_Qi Q (WPost dC dI cA al sh (AW al sh sz)) (AW al sh sz)) 0 0 (AW al sh sz) := by
  refine ww_met (Qc := fun A => va_Qi Q (WPost dC dI cA al sh A) A) (by decide +kernel) (Nat.le_of_ble_eq_true rfl) (fun p e s m args below meth c A C hr hlk => ?_)
  show WW p l e (RM 5) s m args below meth c (MQ below (va_Qi Q (WPost dC dI cA al sh A) A) args s 0 0 A) dC dI cA A 2 0 0 al sh 0 [(0, .ref 61)] [] σ
  unfold m_X9_trace at h
  refine ww_aload_n C 0 rfl dX9_trace_0 ?_
  refine ww_vi (n := 0) (As := []) (rest := []) C (c_X9_readText hs h) (shc_61 hs) rfl nq_229 nq_230 nq_231 nq_5 nq_232 (by decide +kernel) rfl rfl ⟨Nat.le_of_ble_eq_true rfl, Nat.le_of_ble_eq_true rfl, Nat.le_of_ble_eq_true rfl, Nat.le_of_ble_eq_true rfl⟩ (Nat.le_of_ble_eq_true rfl) dX9_trace_1 (fun r1 σ1 h => ?_)
  refine ww_bipush (v := -9) C dX9_trace_4 (by decide) ?_
  refine ww_icmp_eq (tgt := 12) C dX9_trace_6 (by decide) (fun hc => ?_) (fun hc => ?_)
  · have h := h.1 hc
    refine ww_iconst (v := 0) C dX9_trace_12 (by decide) ?_
    refine ww_istore_n (lv' := [(1, .int 0), (0, .ref 61)]) C dX9_trace_13 rfl (by decide) rfl ?_
    refine ww_sub [1, 0] rfl ?_
    obtain ⟨f, h⟩ := h
    exact w_X9_trace_L14 (Q := Q) C hr hlk hs (fun σ h => by exact w_X9_trace_J38 (Q := Q) C hr hlk hs h) f _ _ h
  · have h := h.2 hc
    refine ww_bipush (v := -3) C dX9_trace_9 (by decide) ?_
    exact ww_iret C hr hlk h dX9_trace_11
set_option maxRecDepth 100000 in
set_option maxHeartbeats 4000000 in
theorem w_X9_findHeld_L6b {p : Program} {l : Launch} {e : Env} {s : State} {m : MethodId} {args : Array Value} {below : List Frame} {meth : Method} {c : Code} {dC : Nat → ClassId} {dI : Nat → Nat → Nat} {cA : Nat → ClassId} {A : Nat → Prop} {al : Nat → Nat} {sh : List Kd} (C : Fx p s m args c cX9_findHeld 4 yX9_findHeld.cls dC dI cA A al) (hr : meth.sig.returnType = none) (hlk : meth.locks = false) (hs : ShC sh) {a1 : Int32} {Q : St → Prop} {K69 : St → Prop} (hK69 : ∀ (σ : St), K69 σ → WW p l e (RM 1) s m args below meth c (MQ below (va_Qv Q (WPost dC dI cA al sh A) A) args s 0 0 A) dC dI cA A 4 0 0 al sh 69 [] [] σ) {Rc : St → Int32 → Prop} (hRc : ∀ (σ : St) (x2 : Int32), Rc σ x2 → WW p l e (RM 1) s m args below meth c (MQ below (va_Qv Q (WPost dC dI cA al sh A) A) args s 0 0 A) dC dI cA A 4 0 0 al sh 6 [(0, .ref 61), (1, .int a1), (2, .int x2)] [] σ) {σ : St} {x2 : Int32} (h : m_X9_findHeld_L6b a1 Q K69 Rc σ x2) : WW p l e (RM 1) s m args below meth c (MQ below (va_Qv Q (WPost dC dI cA al sh A) A) args s 0 0 A) dC dI cA A 4 0 0 al sh 6 [(0, .ref 61), (1, .int a1), (2, .int x2)] [] σ := by
  unfold m_X9_findHeld_L6b at h
  refine ww_iload_n C 2 rfl dX9_findHeld_6 ?_
  refine ww_aload_n C 0 rfl dX9_findHeld_7 ?_
  refine ww_iload_n C 1 rfl dX9_findHeld_8 ?_
  refine ww_vi (n := 1) (As := [.int a1]) (rest := [.int x2]) C (c_X9_many hs h) (shc_61 hs) rfl nq_291 nq_292 nq_293 nq_5 nq_294 (by decide +kernel) rfl rfl ⟨Nat.le_of_ble_eq_true rfl, Nat.le_of_ble_eq_true rfl, Nat.le_of_ble_eq_true rfl, Nat.le_of_ble_eq_true rfl⟩ (Nat.le_of_ble_eq_true rfl) dX9_findHeld_9 (fun r9 σ9 h => ?_)
  refine ww_icmp_ge (tgt := 69) C dX9_findHeld_12 (by decide) (fun hc => ?_) (fun hc => ?_)
  · have h := h.1 hc
    refine ww_sub [] rfl ?_
    exact hK69 _ h
  · have h := h.2 hc
    refine ww_aload_n C 0 rfl dX9_findHeld_15 ?_
    refine ww_iload_n C 1 rfl dX9_findHeld_16 ?_
    refine ww_iload_n C 2 rfl dX9_findHeld_17 ?_
    refine ww_vi (n := 2) (As := [.int a1, .int x2]) (rest := []) C (c_X9_threadAt hs h) (shc_61 hs) rfl nq_327 nq_328 nq_329 nq_5 nq_330 (by decide +kernel) rfl rfl ⟨Nat.le_of_ble_eq_true rfl, Nat.le_of_ble_eq_true rfl, Nat.le_of_ble_eq_true rfl, Nat.le_of_ble_eq_true rfl⟩ (Nat.le_of_ble_eq_true rfl) dX9_findHeld_18 (fun r18 σ18 h => ?_)
    refine ww_istore_n (lv' := [(3, .int r18), (0, .ref 61), (1, .int a1), (2, .int x2)]) C dX9_findHeld_21 rfl (by decide) rfl ?_
    refine ww_aload_n C 1 rfl dX9_findHeld_22 ?_
    refine ww_getR C (shc_61 hs) rfl inG9 8 (by decide) nq_126 rfl dX9_findHeld_23 ?_
    refine ww_iload_n C 3 rfl dX9_findHeld_26 ?_
    refine ww_aload_n C 1 rfl dX9_findHeld_27 ?_
    refine ww_getR C (shc_61 hs) rfl inG9 0 (by decide) nq_121 rfl dX9_findHeld_28 ?_
    refine ww_iload_n C 0 rfl dX9_findHeld_31 ?_
    refine ww_iald C (shc_62 hs) h.1 dX9_findHeld_32 ?_
    have h := h.2
    refine ww_iast C (shc_67 hs) h.1 dX9_findHeld_33 h.2 (fun σ33 h => ?_)
    refine ww_aload_n C 1 rfl dX9_findHeld_34 ?_
    refine ww_getR C (shc_61 hs) rfl inG9 9 (by decide) nq_127 rfl dX9_findHeld_35 ?_
    refine ww_iload_n C 3 rfl dX9_findHeld_38 ?_
    refine ww_aload_n C 1 rfl dX9_findHeld_39 ?_
    refine ww_getR C (shc_61 hs) rfl inG9 1 (by decide) nq_122 rfl dX9_findHeld_40 ?_
    refine ww_iload_n C 0 rfl dX9_findHeld_43 ?_
    refine ww_iald C (shc_63 hs) h.1 dX9_findHeld_44 ?_
    have h := h.2
    refine ww_iast C (shc_68 hs) h.1 dX9_findHeld_45 h.2 (fun σ45 h => ?_)
    refine ww_aload_n C 1 rfl dX9_findHeld_46 ?_
    refine ww_iload_n C 0 rfl dX9_findHeld_47 ?_
    refine ww_aload_n C 1 rfl dX9_findHeld_48 ?_
    refine ww_iload_n C 2 rfl dX9_findHeld_49 ?_
    refine ww_iload_n C 3 rfl dX9_findHeld_50 ?_
    refine ww_vi (n := 2) (As := [.int a1, .int x2]) (rest := [.int r18, .ref 61]) C (c_X9_signAt hs h) (shc_61 hs) rfl nq_331 nq_332 nq_333 nq_5 nq_334 (by decide +kernel) rfl rfl ⟨Nat.le_of_ble_eq_true rfl, Nat.le_of_ble_eq_true rfl, Nat.le_of_ble_eq_true rfl, Nat.le_of_ble_eq_true rfl⟩ (Nat.le_of_ble_eq_true rfl) dX9_findHeld_51 (fun r51 σ51 h => ?_)
    refine ww_aload_n C 1 rfl dX9_findHeld_54 ?_
    refine ww_iload_n C 2 rfl dX9_findHeld_55 ?_
    refine ww_iload_n C 3 rfl dX9_findHeld_56 ?_
    refine ww_vi (n := 2) (As := [.int a1, .int x2]) (rest := [.int r51, .int r18, .ref 61]) C (c_X9_aboutAt hs h) (shc_61 hs) rfl nq_335 nq_336 nq_337 nq_5 nq_338 (by decide +kernel) rfl rfl ⟨Nat.le_of_ble_eq_true rfl, Nat.le_of_ble_eq_true rfl, Nat.le_of_ble_eq_true rfl, Nat.le_of_ble_eq_true rfl⟩ (Nat.le_of_ble_eq_true rfl) dX9_findHeld_57 (fun r57 σ57 h => ?_)
    refine ww_vv (n := 3) (As := [.int r18, .int r51, .int r57]) (rest := []) C (c_X9_go hs h) (shc_61 hs) rfl nq_273 nq_274 nq_275 nq_5 nq_276 (by decide +kernel) rfl rfl ⟨Nat.le_of_ble_eq_true rfl, Nat.le_of_ble_eq_true rfl, Nat.le_of_ble_eq_true rfl, Nat.le_of_ble_eq_true rfl⟩ (Nat.le_of_ble_eq_true rfl) dX9_findHeld_60 (fun σ60 h => ?_)
    refine ww_iinc (v := (x2 + 1)) (lv' := [(2, .int (x2 + 1)), (3, .int r18), (0, .ref 61), (1, .int a1)]) C 3 rfl dX9_findHeld_63 rfl (by decide) rfl ?_
    refine ww_goto (tgt := 6) C dX9_findHeld_66 (by decide) ?_
    refine ww_sub [2, 3, 0] rfl ?_
    exact hRc _ _ h
set_option maxRecDepth 100000 in
set_option maxHeartbeats 4000000 in
theorem w_X9_findHeld_L6 {p : Program} {l : Launch} {e : Env} {s : State} {m : MethodId} {args : Array Value} {below : List Frame} {meth : Method} {c : Code} {dC : Nat → ClassId} {dI : Nat → Nat → Nat} {cA : Nat → ClassId} {A : Nat → Prop} {al : Nat → Nat} {sh : List Kd} (C : Fx p s m args c cX9_findHeld 4 yX9_findHeld.cls dC dI cA A al) (hr : meth.sig.returnType = none) (hlk : meth.locks = false) (hs : ShC sh) {a1 : Int32} {Q : St → Prop} {K69 : St → Prop} (hK69 : ∀ (σ : St), K69 σ → WW p l e (RM 1) s m args below meth c (MQ below (va_Qv Q (WPost dC dI cA al sh A) A) args s 0 0 A) dC dI cA A 4 0 0 al sh 69 [] [] σ) : ∀ (f : Nat) (σ : St) (x2 : Int32), m_X9_findHeld_L6 a1 Q K69 f σ x2 → WW p l e (RM 1) s m args below meth c (MQ below (va_Qv Q (WPost dC dI cA al sh A) A) args s 0 0 A) dC dI cA A 4 0 0 al sh 6 [(0, .ref 61), (1, .int a1), (2, .int x2)] [] σ := by
  intro f
  induction f with
  | zero => intro σ x2 h; exact False.elim h
  | succ f ih => intro σ x2 h; exact w_X9_findHeld_L6b (Q := Q) (a1 := a1) C hr hlk hs hK69 ih h
set_option maxRecDepth 100000 in
set_option maxHeartbeats 4000000 in
theorem w_X9_findHeld_J69 {p : Program} {l : Launch} {e : Env} {s : State} {m : MethodId} {args : Array Value} {below : List Frame} {meth : Method} {c : Code} {dC : Nat → ClassId} {dI : Nat → Nat → Nat} {cA : Nat → ClassId} {A : Nat → Prop} {al : Nat → Nat} {sh : List Kd} (C : Fx p s m args c cX9_findHeld 4 yX9_findHeld.cls dC dI cA A al) (hr : meth.sig.returnType = none) (hlk : meth.locks = false) (hs : ShC sh) {a1 : Int32} {Q : St → Prop} {σ : St} (h : m_X9_findHeld_J69 a1 Q σ) : WW p l e (RM 1) s m args below meth c (MQ below (va_Qv Q (WPost dC dI cA al sh A) A) args s 0 0 A) dC dI cA A 4 0 0 al sh 69 [] [] σ := by
  unfold m_X9_findHeld_J69 at h
  exact ww_vret C hr hlk h dX9_findHeld_69
set_option maxRecDepth 100000 in
set_option maxHeartbeats 4000000 in
theorem c_X9_findHeld {l : Launch} {dC : Nat → ClassId} {dI : Nat → Nat → Nat} {cA : Nat → ClassId} {al : Nat → Nat} {sh : List Kd} (hs : ShC sh) {σ : St} {a1 : Int32} {Q : St → Prop} (h : m_X9_findHeld σ a1 Q) : ∀ sz, Met l yX9_findHeld (wd yX9_findHeld cX9_findHeld 4 none) (RM 1) (va_Pc ([.ref 61, .int a1].map (cv al)) (WPre dC dI cA al sh σ sz)) (va_Qv Q (WPost dC dI cA al sh (AW al sh sz)) (AW al sh sz)) 0 0 (AW al sh sz) := by
  refine ww_met (Qc := fun A => va_Qv Q (WPost dC dI cA al sh A) A) (by decide +kernel) (Nat.le_of_ble_eq_true rfl) (fun p e s m args below meth c A C hr hlk => ?_)
  show WW p l e (RM 1) s m args below meth c (MQ below (va_Qv Q (WPost dC dI cA al sh A) A) args s 0 0 A) dC dI cA A 4 0 0 al sh 0 [(0, .ref 61), (1, .int a1)] [] σ
  unfold m_X9_findHeld at h
  refine ww_aload_n C 0 rfl dX9_findHeld_0 ?_
  refine ww_vv (n := 0) (As := []) (rest := []) C (c_X9_begin hs h) (shc_61 hs) rfl nq_233 nq_234 nq_235 nq_5 nq_236 (by decide +kernel) rfl rfl ⟨Nat.le_of_ble_eq_true rfl, Nat.le_of_ble_eq_true rfl, Nat.le_of_ble_eq_true rfl, Nat.le_of_ble_eq_true rfl⟩ (Nat.le_of_ble_eq_true rfl) dX9_findHeld_1 (fun σ1 h => ?_)
  refine ww_iconst (v := 0) C dX9_findHeld_4 (by decide) ?_
  refine ww_istore_n (lv' := [(2, .int 0), (0, .ref 61), (1, .int a1)]) C dX9_findHeld_5 rfl (by decide) rfl ?_
  refine ww_sub [1, 2, 0] rfl ?_
  obtain ⟨f, h⟩ := h
  exact w_X9_findHeld_L6 (Q := Q) (a1 := a1) C hr hlk hs (fun σ h => by exact w_X9_findHeld_J69 (Q := Q) (a1 := a1) C hr hlk hs h) f _ _ h
