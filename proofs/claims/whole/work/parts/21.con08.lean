set_option maxRecDepth 100000 in
set_option maxHeartbeats 4000000 in
theorem c_X9_ahead {l : Launch} {dC : Nat → ClassId} {dI : Nat → Nat → Nat} {cA : Nat → ClassId} {al : Nat → Nat} {sh : List Kd} (hs : ShC sh) {σ : St} {a1 : Int32} {a2 : Int32} {Q : Int32 → St → Prop} (h : m_X9_ahead σ a1 a2 Q) : ∀ sz, Met l yX9_ahead (wd yX9_ahead cX9_ahead 3 (some .int)) (RM 3) (va_Pc ([.ref 61, .int a1, .int a2].map (cv al)) (WPre dC dI cA al sh σ sz)) (va_Qi Q (WPost dC dI cA al sh (AW al sh sz)) (AW al sh sz)) 0 0 (AW al sh sz) := by
  refine ww_met (Qc := fun A => va_Qi Q (WPost dC dI cA al sh A) A) (by decide +kernel) (Nat.le_of_ble_eq_true rfl) (fun p e s m args below meth c A C hr hlk => ?_)
  show WW p l e (RM 3) s m args below meth c (MQ below (va_Qi Q (WPost dC dI cA al sh A) A) args s 0 0 A) dC dI cA A 3 0 0 al sh 0 [(0, .ref 61), (1, .int a1), (2, .int a2)] [] σ
  unfold m_X9_ahead at h
  refine ww_aload_n C 0 rfl dX9_ahead_0 ?_
  refine ww_iconst (v := 0) C dX9_ahead_1 (by decide) ?_
  refine ww_iload_n C 1 rfl dX9_ahead_2 ?_
  refine ww_vi (n := 2) (As := [.int 0, .int a1]) (rest := []) C (c_X9_isStep hs h) (shc_61 hs) rfl nq_319 nq_320 nq_321 nq_5 nq_322 (by decide +kernel) rfl rfl ⟨Nat.le_of_ble_eq_true rfl, Nat.le_of_ble_eq_true rfl, Nat.le_of_ble_eq_true rfl, Nat.le_of_ble_eq_true rfl⟩ (Nat.le_of_ble_eq_true rfl) dX9_ahead_3 (fun r3 σ3 h => ?_)
  refine ww_if_eq (tgt := 18) C dX9_ahead_6 (by decide) (fun hc => ?_) (fun hc => ?_)
  · have h := h.1 hc
    refine ww_iconst (v := -1) C dX9_ahead_18 (by decide) ?_
    exact ww_iret C hr hlk h dX9_ahead_19
  · have h := h.2 hc
    refine ww_aload_n C 0 rfl dX9_ahead_9 ?_
    refine ww_iconst (v := 0) C dX9_ahead_10 (by decide) ?_
    refine ww_iload_n C 2 rfl dX9_ahead_11 ?_
    refine ww_vi (n := 2) (As := [.int 0, .int a2]) (rest := []) C (c_X9_isStep hs h) (shc_61 hs) rfl nq_319 nq_320 nq_321 nq_5 nq_322 (by decide +kernel) rfl rfl ⟨Nat.le_of_ble_eq_true rfl, Nat.le_of_ble_eq_true rfl, Nat.le_of_ble_eq_true rfl, Nat.le_of_ble_eq_true rfl⟩ (Nat.le_of_ble_eq_true rfl) dX9_ahead_12 (fun r12 σ12 h => ?_)
    refine ww_if_ne (tgt := 20) C dX9_ahead_15 (by decide) (fun hc => ?_) (fun hc => ?_)
    · have h := h.1 hc
      refine ww_aload_n C 0 rfl dX9_ahead_20 ?_
      refine ww_iconst (v := 0) C dX9_ahead_21 (by decide) ?_
      refine ww_vv (n := 1) (As := [.int 0]) (rest := []) C (c_X9_findBefore hs h) (shc_61 hs) rfl nq_517 nq_518 nq_519 nq_5 nq_520 (by decide +kernel) rfl rfl ⟨Nat.le_of_ble_eq_true rfl, Nat.le_of_ble_eq_true rfl, Nat.le_of_ble_eq_true rfl, Nat.le_of_ble_eq_true rfl⟩ (Nat.le_of_ble_eq_true rfl) dX9_ahead_22 (fun σ22 h => ?_)
      refine ww_aload_n C 0 rfl dX9_ahead_25 ?_
      refine ww_getR C (shc_61 hs) rfl inG9 18 (by decide) nq_129 rfl dX9_ahead_26 ?_
      refine ww_iload_n C 2 rfl dX9_ahead_29 ?_
      refine ww_iald C (shc_70 hs) h.1 dX9_ahead_30 ?_
      have h := h.2
      refine ww_iload_n C 1 rfl dX9_ahead_31 ?_
      refine ww_si (n := 2) (As := [.int (σ22.1 70 a2.toNatClampNeg), .int a1]) (rest := []) C (c_X9_has hs h) nq_244 nq_245 nq_5 nq_246 (by decide +kernel) rfl rfl ⟨Nat.le_of_ble_eq_true rfl, Nat.le_of_ble_eq_true rfl, Nat.le_of_ble_eq_true rfl, Nat.le_of_ble_eq_true rfl⟩ (Nat.le_of_ble_eq_true rfl) dX9_ahead_32 (fun r32 σ32 h => ?_)
      refine ww_if_eq (tgt := 42) C dX9_ahead_35 (by decide) (fun hc => ?_) (fun hc => ?_)
      · have h := h.1 hc
        refine ww_iconst (v := 0) C dX9_ahead_42 (by decide) ?_
        exact ww_iret C hr hlk h dX9_ahead_43
      · have h := h.2 hc
        refine ww_iconst (v := 1) C dX9_ahead_38 (by decide) ?_
        refine ww_goto (tgt := 43) C dX9_ahead_39 (by decide) ?_
        exact ww_iret C hr hlk h dX9_ahead_43
    · have h := h.2 hc
      refine ww_iconst (v := -1) C dX9_ahead_18 (by decide) ?_
      exact ww_iret C hr hlk h dX9_ahead_19
set_option maxRecDepth 100000 in
set_option maxHeartbeats 4000000 in
theorem w_X9_areMeeting_J46 {p : Program} {l : Launch} {e : Env} {s : State} {m : MethodId} {args : Array Value} {below : List Frame} {meth : Method} {c : Code} {dC : Nat → ClassId} {dI : Nat → Nat → Nat} {cA : Nat → ClassId} {A : Nat → Prop} {al : Nat → Nat} {sh : List Kd} (C : Fx p s m args c cX9_areMeeting 5 yX9_areMeeting.cls dC dI cA A al) (hr : meth.sig.returnType = some .boolean) (hlk : meth.locks = false) (hs : ShC sh) {a1 : Int32} {a2 : Int32} {Q : Int32 → St → Prop} {σ : St} {x3 : Int32} {t0 : Int32} (h : m_X9_areMeeting_J46 a1 a2 Q σ x3 t0) : WW p l e (RM 2) s m args below meth c (MQ below (va_Qi Q (WPost dC dI cA al sh A) A) args s 0 0 A) dC dI cA A 5 0 0 al sh 46 [(0, .ref 61), (1, .int a1), (2, .int a2), (3, .int x3)] [.int t0] σ := by
  unfold m_X9_areMeeting_J46 at h
  refine ww_istore (lv' := [(4, .int t0), (0, .ref 61), (1, .int a1), (2, .int a2), (3, .int x3)]) C dX9_areMeeting_46 (by decide) rfl ?_
  refine ww_iload_n C 4 rfl dX9_areMeeting_48 ?_
  refine ww_if_eq (tgt := 90) C dX9_areMeeting_49 (by decide) (fun hc => ?_) (fun hc => ?_)
  · have h := h.1 hc
    refine ww_iconst (v := 0) C dX9_areMeeting_90 (by decide) ?_
    exact ww_zret C hr hlk (by decide) h dX9_areMeeting_91
  · have h := h.2 hc
    refine ww_iload C 0 rfl dX9_areMeeting_52 ?_
    refine ww_if_eq (tgt := 90) C dX9_areMeeting_54 (by decide) (fun hc => ?_) (fun hc => ?_)
    · have h := h.1 hc
      refine ww_iconst (v := 0) C dX9_areMeeting_90 (by decide) ?_
      exact ww_zret C hr hlk (by decide) h dX9_areMeeting_91
    · have h := h.2 hc
      refine ww_aload_n C 1 rfl dX9_areMeeting_57 ?_
      refine ww_getR C (shc_61 hs) rfl inG9 18 (by decide) nq_129 rfl dX9_areMeeting_58 ?_
      refine ww_iload_n C 3 rfl dX9_areMeeting_61 ?_
      refine ww_iald C (shc_70 hs) h.1 dX9_areMeeting_62 ?_
      have h := h.2
      refine ww_iload_n C 2 rfl dX9_areMeeting_63 ?_
      refine ww_si (n := 2) (As := [.int (σ.1 70 a2.toNatClampNeg), .int a1]) (rest := []) C (c_X9_has hs h) nq_244 nq_245 nq_5 nq_246 (by decide +kernel) rfl rfl ⟨Nat.le_of_ble_eq_true rfl, Nat.le_of_ble_eq_true rfl, Nat.le_of_ble_eq_true rfl, Nat.le_of_ble_eq_true rfl⟩ (Nat.le_of_ble_eq_true rfl) dX9_areMeeting_64 (fun r64 σ64 h => ?_)
      refine ww_if_ne (tgt := 90) C dX9_areMeeting_67 (by decide) (fun hc => ?_) (fun hc => ?_)
      · have h := h.1 hc
        refine ww_iconst (v := 0) C dX9_areMeeting_90 (by decide) ?_
        exact ww_zret C hr hlk (by decide) h dX9_areMeeting_91
      · have h := h.2 hc
        refine ww_aload_n C 1 rfl dX9_areMeeting_70 ?_
        refine ww_iconst (v := 0) C dX9_areMeeting_71 (by decide) ?_
        refine ww_iload_n C 2 rfl dX9_areMeeting_72 ?_
        refine ww_vi (n := 2) (As := [.int 0, .int a1]) (rest := []) C (c_X9_guardsOf hs h) (shc_61 hs) rfl nq_501 nq_502 nq_503 nq_5 nq_504 (by decide +kernel) rfl rfl ⟨Nat.le_of_ble_eq_true rfl, Nat.le_of_ble_eq_true rfl, Nat.le_of_ble_eq_true rfl, Nat.le_of_ble_eq_true rfl⟩ (Nat.le_of_ble_eq_true rfl) dX9_areMeeting_73 (fun r73 σ73 h => ?_)
        refine ww_aload_n C 1 rfl dX9_areMeeting_76 ?_
        refine ww_iconst (v := 0) C dX9_areMeeting_77 (by decide) ?_
        refine ww_iload_n C 3 rfl dX9_areMeeting_78 ?_
        refine ww_vi (n := 2) (As := [.int 0, .int a2]) (rest := [.int r73]) C (c_X9_guardsOf hs h) (shc_61 hs) rfl nq_501 nq_502 nq_503 nq_5 nq_504 (by decide +kernel) rfl rfl ⟨Nat.le_of_ble_eq_true rfl, Nat.le_of_ble_eq_true rfl, Nat.le_of_ble_eq_true rfl, Nat.le_of_ble_eq_true rfl⟩ (Nat.le_of_ble_eq_true rfl) dX9_areMeeting_79 (fun r79 σ79 h => ?_)
        refine ww_iand C dX9_areMeeting_82 ?_
        refine ww_if_ne (tgt := 90) C dX9_areMeeting_83 (by decide) (fun hc => ?_) (fun hc => ?_)
        · have h := h.1 hc
          refine ww_iconst (v := 0) C dX9_areMeeting_90 (by decide) ?_
          exact ww_zret C hr hlk (by decide) h dX9_areMeeting_91
        · have h := h.2 hc
          refine ww_iconst (v := 1) C dX9_areMeeting_86 (by decide) ?_
          refine ww_goto (tgt := 91) C dX9_areMeeting_87 (by decide) ?_
          exact ww_zret C hr hlk (by decide) h dX9_areMeeting_91
set_option maxRecDepth 100000 in
set_option maxHeartbeats 4000000 in
theorem w_X9_areMeeting_J41 {p : Program} {l : Launch} {e : Env} {s : State} {m : MethodId} {args : Array Value} {below : List Frame} {meth : Method} {c : Code} {dC : Nat → ClassId} {dI : Nat → Nat → Nat} {cA : Nat → ClassId} {A : Nat → Prop} {al : Nat → Nat} {sh : List Kd} (C : Fx p s m args c cX9_areMeeting 5 yX9_areMeeting.cls dC dI cA A al) (hr : meth.sig.returnType = some .boolean) (hlk : meth.locks = false) (hs : ShC sh) {a1 : Int32} {a2 : Int32} {Q : Int32 → St → Prop} {σ : St} {x3 : Int32} (h : m_X9_areMeeting_J41 a1 a2 Q σ x3) : WW p l e (RM 2) s m args below meth c (MQ below (va_Qi Q (WPost dC dI cA al sh A) A) args s 0 0 A) dC dI cA A 5 0 0 al sh 41 [(0, .ref 61), (1, .int a1), (2, .int a2), (3, .int x3)] [] σ := by
  unfold m_X9_areMeeting_J41 at h
  refine ww_iconst (v := 1) C dX9_areMeeting_41 (by decide) ?_
  refine ww_goto (tgt := 46) C dX9_areMeeting_42 (by decide) ?_
  exact w_X9_areMeeting_J46 (Q := Q) (a1 := a1) (a2 := a2) C hr hlk hs h
set_option maxRecDepth 100000 in
set_option maxHeartbeats 4000000 in
theorem w_X9_areMeeting_J20 {p : Program} {l : Launch} {e : Env} {s : State} {m : MethodId} {args : Array Value} {below : List Frame} {meth : Method} {c : Code} {dC : Nat → ClassId} {dI : Nat → Nat → Nat} {cA : Nat → ClassId} {A : Nat → Prop} {al : Nat → Nat} {sh : List Kd} (C : Fx p s m args c cX9_areMeeting 5 yX9_areMeeting.cls dC dI cA A al) (hr : meth.sig.returnType = some .boolean) (hlk : meth.locks = false) (hs : ShC sh) {a1 : Int32} {a2 : Int32} {Q : Int32 → St → Prop} {σ : St} {t0 : Int32} (h : m_X9_areMeeting_J20 a1 a2 Q σ t0) : WW p l e (RM 2) s m args below meth c (MQ below (va_Qi Q (WPost dC dI cA al sh A) A) args s 0 0 A) dC dI cA A 5 0 0 al sh 20 [(0, .ref 61), (1, .int a1), (2, .int a2)] [.int t0] σ := by
  unfold m_X9_areMeeting_J20 at h
  refine ww_istore_n (lv' := [(3, .int t0), (0, .ref 61), (1, .int a1), (2, .int a2)]) C dX9_areMeeting_20 rfl (by decide) rfl ?_
  refine ww_aload_n C 1 rfl dX9_areMeeting_21 ?_
  refine ww_iconst (v := 0) C dX9_areMeeting_22 (by decide) ?_
  refine ww_iload_n C 2 rfl dX9_areMeeting_23 ?_
  refine ww_vi (n := 2) (As := [.int 0, .int a1]) (rest := []) C (c_X9_signAt hs h) (shc_61 hs) rfl nq_331 nq_332 nq_333 nq_5 nq_334 (by decide +kernel) rfl rfl ⟨Nat.le_of_ble_eq_true rfl, Nat.le_of_ble_eq_true rfl, Nat.le_of_ble_eq_true rfl, Nat.le_of_ble_eq_true rfl⟩ (Nat.le_of_ble_eq_true rfl) dX9_areMeeting_24 (fun r24 σ24 h => ?_)
  refine ww_iconst (v := 4) C dX9_areMeeting_27 (by decide) ?_
  refine ww_icmp_eq (tgt := 41) C dX9_areMeeting_28 (by decide) (fun hc => ?_) (fun hc => ?_)
  · have h := h.1 hc
    refine ww_sub [1, 2, 3, 0] rfl ?_
    exact w_X9_areMeeting_J41 (Q := Q) (a1 := a1) (a2 := a2) C hr hlk hs h
  · have h := h.2 hc
    refine ww_aload_n C 1 rfl dX9_areMeeting_31 ?_
    refine ww_iconst (v := 0) C dX9_areMeeting_32 (by decide) ?_
    refine ww_iload_n C 3 rfl dX9_areMeeting_33 ?_
    refine ww_vi (n := 2) (As := [.int 0, .int a2]) (rest := []) C (c_X9_signAt hs h) (shc_61 hs) rfl nq_331 nq_332 nq_333 nq_5 nq_334 (by decide +kernel) rfl rfl ⟨Nat.le_of_ble_eq_true rfl, Nat.le_of_ble_eq_true rfl, Nat.le_of_ble_eq_true rfl, Nat.le_of_ble_eq_true rfl⟩ (Nat.le_of_ble_eq_true rfl) dX9_areMeeting_34 (fun r34 σ34 h => ?_)
    refine ww_iconst (v := 4) C dX9_areMeeting_37 (by decide) ?_
    refine ww_icmp_ne (tgt := 45) C dX9_areMeeting_38 (by decide) (fun hc => ?_) (fun hc => ?_)
    · have h := h.1 hc
      refine ww_iconst (v := 0) C dX9_areMeeting_45 (by decide) ?_
      refine ww_sub [1, 2, 3, 0] rfl ?_
      exact w_X9_areMeeting_J46 (Q := Q) (a1 := a1) (a2 := a2) C hr hlk hs h
    · have h := h.2 hc
      refine ww_sub [1, 2, 3, 0] rfl ?_
      exact w_X9_areMeeting_J41 (Q := Q) (a1 := a1) (a2 := a2) C hr hlk hs h
set_option maxRecDepth 100000 in
set_option maxHeartbeats 4000000 in
theorem c_X9_areMeeting {l : Launch} {dC : Nat → ClassId} {dI : Nat → Nat → Nat} {cA : Nat → ClassId} {al : Nat → Nat} {sh : List Kd} (hs : ShC sh) {σ : St} {a1 : Int32} {a2 : Int32} {Q : Int32 → St → Prop} (h : m_X9_areMeeting σ a1 a2 Q) : ∀ sz, Met l yX9_areMeeting (wd yX9_areMeeting cX9_areMeeting 5 (some .boolean)) (RM 2) (va_Pc ([.ref 61, .int a1, .int a2].map (cv al)) (WPre dC dI cA al sh σ sz)) (va_Qi Q (WPost dC dI cA al sh (AW al sh sz)) (AW al sh sz)) 0 0 (AW al sh sz) := by
  refine ww_met (Qc := fun A => va_Qi Q (WPost dC dI cA al sh A) A) (by decide +kernel) (Nat.le_of_ble_eq_true rfl) (fun p e s m args below meth c A C hr hlk => ?_)
  show WW p l e (RM 2) s m args below meth c (MQ below (va_Qi Q (WPost dC dI cA al sh A) A) args s 0 0 A) dC dI cA A 5 0 0 al sh 0 [(0, .ref 61), (1, .int a1), (2, .int a2)] [] σ
  unfold m_X9_areMeeting at h
  refine ww_aload_n C 0 rfl dX9_areMeeting_0 ?_
  refine ww_iconst (v := 0) C dX9_areMeeting_1 (by decide) ?_
  refine ww_iload_n C 1 rfl dX9_areMeeting_2 ?_
  refine ww_vi (n := 2) (As := [.int 0, .int a1]) (rest := []) C (c_X9_threadAt hs h) (shc_61 hs) rfl nq_327 nq_328 nq_329 nq_5 nq_330 (by decide +kernel) rfl rfl ⟨Nat.le_of_ble_eq_true rfl, Nat.le_of_ble_eq_true rfl, Nat.le_of_ble_eq_true rfl, Nat.le_of_ble_eq_true rfl⟩ (Nat.le_of_ble_eq_true rfl) dX9_areMeeting_3 (fun r3 σ3 h => ?_)
  refine ww_aload_n C 0 rfl dX9_areMeeting_6 ?_
  refine ww_iconst (v := 0) C dX9_areMeeting_7 (by decide) ?_
  refine ww_iload_n C 2 rfl dX9_areMeeting_8 ?_
  refine ww_vi (n := 2) (As := [.int 0, .int a2]) (rest := [.int r3]) C (c_X9_threadAt hs h) (shc_61 hs) rfl nq_327 nq_328 nq_329 nq_5 nq_330 (by decide +kernel) rfl rfl ⟨Nat.le_of_ble_eq_true rfl, Nat.le_of_ble_eq_true rfl, Nat.le_of_ble_eq_true rfl, Nat.le_of_ble_eq_true rfl⟩ (Nat.le_of_ble_eq_true rfl) dX9_areMeeting_9 (fun r9 σ9 h => ?_)
  refine ww_icmp_eq (tgt := 19) C dX9_areMeeting_12 (by decide) (fun hc => ?_) (fun hc => ?_)
  · have h := h.1 hc
    refine ww_iconst (v := 0) C dX9_areMeeting_19 (by decide) ?_
    exact w_X9_areMeeting_J20 (Q := Q) (a1 := a1) (a2 := a2) C hr hlk hs h
  · have h := h.2 hc
    refine ww_iconst (v := 1) C dX9_areMeeting_15 (by decide) ?_
    refine ww_goto (tgt := 20) C dX9_areMeeting_16 (by decide) ?_
    exact w_X9_areMeeting_J20 (Q := Q) (a1 := a1) (a2 := a2) C hr hlk hs h
set_option maxRecDepth 100000 in
set_option maxHeartbeats 4000000 in
theorem w_X9_meetingsOf_L24b {p : Program} {l : Launch} {e : Env} {s : State} {m : MethodId} {args : Array Value} {below : List Frame} {meth : Method} {c : Code} {dC : Nat → ClassId} {dI : Nat → Nat → Nat} {cA : Nat → ClassId} {A : Nat → Prop} {al : Nat → Nat} {sh : List Kd} (C : Fx p s m args c cX9_meetingsOf 5 yX9_meetingsOf.cls dC dI cA A al) (hr : meth.sig.returnType = some .int) (hlk : meth.locks = false) (hs : ShC sh) {a1 : Int32} {Q : Int32 → St → Prop} {x3 : Int32} {K96 : St → Int32 → Prop} (hK96 : ∀ (σ : St) (x2 : Int32), K96 σ x2 → WW p l e (RM 3) s m args below meth c (MQ below (va_Qi Q (WPost dC dI cA al sh A) A) args s 0 0 A) dC dI cA A 5 0 0 al sh 96 [(0, .ref 61), (1, .int a1), (2, .int x2), (3, .int x3)] [] σ) {Rc : St → Int32 → Int32 → Prop} (hRc : ∀ (σ : St) (x2 : Int32) (x4 : Int32), Rc σ x2 x4 → WW p l e (RM 3) s m args below meth c (MQ below (va_Qi Q (WPost dC dI cA al sh A) A) args s 0 0 A) dC dI cA A 5 0 0 al sh 24 [(0, .ref 61), (1, .int a1), (2, .int x2), (3, .int x3), (4, .int x4)] [] σ) {σ : St} {x2 : Int32} {x4 : Int32} (h : m_X9_meetingsOf_L24b a1 Q x3 K96 Rc σ x2 x4) : WW p l e (RM 3) s m args below meth c (MQ below (va_Qi Q (WPost dC dI cA al sh A) A) args s 0 0 A) dC dI cA A 5 0 0 al sh 24 [(0, .ref 61), (1, .int a1), (2, .int x2), (3, .int x3), (4, .int x4)] [] σ := by
  unfold m_X9_meetingsOf_L24b at h
  refine ww_iload C 4 rfl dX9_meetingsOf_24 ?_
  refine ww_aload_n C 0 rfl dX9_meetingsOf_26 ?_
  refine ww_iconst (v := 0) C dX9_meetingsOf_27 (by decide) ?_
  refine ww_vi (n := 1) (As := [.int 0]) (rest := [.int x4]) C (c_X9_many hs h) (shc_61 hs) rfl nq_291 nq_292 nq_293 nq_5 nq_294 (by decide +kernel) rfl rfl ⟨Nat.le_of_ble_eq_true rfl, Nat.le_of_ble_eq_true rfl, Nat.le_of_ble_eq_true rfl, Nat.le_of_ble_eq_true rfl⟩ (Nat.le_of_ble_eq_true rfl) dX9_meetingsOf_28 (fun r28 σ28 h => ?_)
  refine ww_icmp_ge (tgt := 96) C dX9_meetingsOf_31 (by decide) (fun hc => ?_) (fun hc => ?_)
  · have h := h.1 hc
    refine ww_sub [0, 1, 2, 3] rfl ?_
    exact hK96 _ _ h
  · have h := h.2 hc
    refine ww_aload_n C 0 rfl dX9_meetingsOf_34 ?_
    refine ww_iconst (v := 0) C dX9_meetingsOf_35 (by decide) ?_
    refine ww_iload_n C 3 rfl dX9_meetingsOf_36 ?_
    refine ww_iload_n C 1 rfl dX9_meetingsOf_37 ?_
    refine ww_vi (n := 3) (As := [.int 0, .int x3, .int a1]) (rest := []) C (c_X9_isTouchOf hs h) (shc_61 hs) rfl nq_489 nq_490 nq_491 nq_5 nq_492 (by decide +kernel) rfl rfl ⟨Nat.le_of_ble_eq_true rfl, Nat.le_of_ble_eq_true rfl, Nat.le_of_ble_eq_true rfl, Nat.le_of_ble_eq_true rfl⟩ (Nat.le_of_ble_eq_true rfl) dX9_meetingsOf_38 (fun r38 σ38 h => ?_)
    refine ww_if_eq (tgt := 90) C dX9_meetingsOf_41 (by decide) (fun hc => ?_) (fun hc => ?_)
    · have h := h.1 hc
      refine ww_iinc (v := (x4 + 1)) (lv' := [(4, .int (x4 + 1)), (0, .ref 61), (1, .int a1), (2, .int x2), (3, .int x3)]) C 4 rfl dX9_meetingsOf_90 rfl (by decide) rfl ?_
      refine ww_goto (tgt := 24) C dX9_meetingsOf_93 (by decide) ?_
      refine ww_sub [1, 2, 3, 4, 0] rfl ?_
      exact hRc _ _ _ h
    · have h := h.2 hc
      refine ww_aload_n C 0 rfl dX9_meetingsOf_44 ?_
      refine ww_iconst (v := 0) C dX9_meetingsOf_45 (by decide) ?_
      refine ww_iload C 4 rfl dX9_meetingsOf_46 ?_
      refine ww_iload_n C 1 rfl dX9_meetingsOf_48 ?_
      refine ww_vi (n := 3) (As := [.int 0, .int x4, .int a1]) (rest := []) C (c_X9_isTouchOf hs h) (shc_61 hs) rfl nq_489 nq_490 nq_491 nq_5 nq_492 (by decide +kernel) rfl rfl ⟨Nat.le_of_ble_eq_true rfl, Nat.le_of_ble_eq_true rfl, Nat.le_of_ble_eq_true rfl, Nat.le_of_ble_eq_true rfl⟩ (Nat.le_of_ble_eq_true rfl) dX9_meetingsOf_49 (fun r49 σ49 h => ?_)
      refine ww_if_eq (tgt := 90) C dX9_meetingsOf_52 (by decide) (fun hc => ?_) (fun hc => ?_)
      · have h := h.1 hc
        refine ww_iinc (v := (x4 + 1)) (lv' := [(4, .int (x4 + 1)), (0, .ref 61), (1, .int a1), (2, .int x2), (3, .int x3)]) C 4 rfl dX9_meetingsOf_90 rfl (by decide) rfl ?_
        refine ww_goto (tgt := 24) C dX9_meetingsOf_93 (by decide) ?_
        refine ww_sub [1, 2, 3, 4, 0] rfl ?_
        exact hRc _ _ _ h
      · have h := h.2 hc
        refine ww_aload_n C 0 rfl dX9_meetingsOf_55 ?_
        refine ww_iload_n C 3 rfl dX9_meetingsOf_56 ?_
        refine ww_iload C 4 rfl dX9_meetingsOf_57 ?_
        refine ww_vi (n := 2) (As := [.int x3, .int x4]) (rest := []) C (c_X9_areMeeting hs h) (shc_61 hs) rfl nq_548 nq_549 nq_550 nq_5 nq_551 (by decide +kernel) rfl rfl ⟨Nat.le_of_ble_eq_true rfl, Nat.le_of_ble_eq_true rfl, Nat.le_of_ble_eq_true rfl, Nat.le_of_ble_eq_true rfl⟩ (Nat.le_of_ble_eq_true rfl) dX9_meetingsOf_59 (fun r59 σ59 h => ?_)
        refine ww_if_eq (tgt := 90) C dX9_meetingsOf_62 (by decide) (fun hc => ?_) (fun hc => ?_)
        · have h := h.1 hc
          refine ww_iinc (v := (x4 + 1)) (lv' := [(4, .int (x4 + 1)), (0, .ref 61), (1, .int a1), (2, .int x2), (3, .int x3)]) C 4 rfl dX9_meetingsOf_90 rfl (by decide) rfl ?_
          refine ww_goto (tgt := 24) C dX9_meetingsOf_93 (by decide) ?_
          refine ww_sub [1, 2, 3, 4, 0] rfl ?_
          exact hRc _ _ _ h
        · have h := h.2 hc
          refine ww_aload_n C 0 rfl dX9_meetingsOf_65 ?_
          refine ww_iload_n C 2 rfl dX9_meetingsOf_66 ?_
          refine ww_if_ne (tgt := 80) C dX9_meetingsOf_67 (by decide) (fun hc => ?_) (fun hc => ?_)
          · have h := h.1 hc
            refine ww_aload_n C 0 rfl dX9_meetingsOf_80 ?_
            refine ww_getI C (shc_61 hs) rfl inG9 19 (by decide) nq_543 rfl dX9_meetingsOf_81 ?_
            refine ww_putI C (shc_61 hs) rfl inG9 19 (by decide) nq_543 tyX9 tyX9_ok nmX9 rfl (by decide +kernel) rfl dX9_meetingsOf_84 h (fun σ84 h => ?_)
            refine ww_iinc (v := (x2 + 1)) (lv' := [(2, .int (x2 + 1)), (0, .ref 61), (1, .int a1), (3, .int x3), (4, .int x4)]) C 2 rfl dX9_meetingsOf_87 rfl (by decide) rfl ?_
            refine ww_iinc (v := (x4 + 1)) (lv' := [(4, .int (x4 + 1)), (2, .int (x2 + 1)), (0, .ref 61), (1, .int a1), (3, .int x3)]) C 4 rfl dX9_meetingsOf_90 rfl (by decide) rfl ?_
            refine ww_goto (tgt := 24) C dX9_meetingsOf_93 (by decide) ?_
            refine ww_sub [2, 3, 1, 4, 0] rfl ?_
            exact hRc _ _ _ h
          · have h := h.2 hc
            refine ww_bipush (v := 100) C dX9_meetingsOf_70 (by decide) ?_
            refine ww_iload_n C 3 rfl dX9_meetingsOf_72 ?_
            refine ww_imul C dX9_meetingsOf_73 ?_
            refine ww_iload C 4 rfl dX9_meetingsOf_74 ?_
            refine ww_iadd C dX9_meetingsOf_76 ?_
            refine ww_goto (tgt := 84) C dX9_meetingsOf_77 (by decide) ?_
            refine ww_putI C (shc_61 hs) rfl inG9 19 (by decide) nq_543 tyX9 tyX9_ok nmX9 rfl (by decide +kernel) rfl dX9_meetingsOf_84 h (fun σ84 h => ?_)
            refine ww_iinc (v := (x2 + 1)) (lv' := [(2, .int (x2 + 1)), (0, .ref 61), (1, .int a1), (3, .int x3), (4, .int x4)]) C 2 rfl dX9_meetingsOf_87 rfl (by decide) rfl ?_
            refine ww_iinc (v := (x4 + 1)) (lv' := [(4, .int (x4 + 1)), (2, .int (x2 + 1)), (0, .ref 61), (1, .int a1), (3, .int x3)]) C 4 rfl dX9_meetingsOf_90 rfl (by decide) rfl ?_
            refine ww_goto (tgt := 24) C dX9_meetingsOf_93 (by decide) ?_
            refine ww_sub [2, 3, 1, 4, 0] rfl ?_
            exact hRc _ _ _ h
set_option maxRecDepth 100000 in
set_option maxHeartbeats 4000000 in
theorem w_X9_meetingsOf_L24 {p : Program} {l : Launch} {e : Env} {s : State} {m : MethodId} {args : Array Value} {below : List Frame} {meth : Method} {c : Code} {dC : Nat → ClassId} {dI : Nat → Nat → Nat} {cA : Nat → ClassId} {A : Nat → Prop} {al : Nat → Nat} {sh : List Kd} (C : Fx p s m args c cX9_meetingsOf 5 yX9_meetingsOf.cls dC dI cA A al) (hr : meth.sig.returnType = some .int) (hlk : meth.locks = false) (hs : ShC sh) {a1 : Int32} {Q : Int32 → St → Prop} {x3 : Int32} {K96 : St → Int32 → Prop} (hK96 : ∀ (σ : St) (x2 : Int32), K96 σ x2 → WW p l e (RM 3) s m args below meth c (MQ below (va_Qi Q (WPost dC dI cA al sh A) A) args s 0 0 A) dC dI cA A 5 0 0 al sh 96 [(0, .ref 61), (1, .int a1), (2, .int x2), (3, .int x3)] [] σ) : ∀ (f : Nat) (σ : St) (x2 : Int32) (x4 : Int32), m_X9_meetingsOf_L24 a1 Q x3 K96 f σ x2 x4 → WW p l e (RM 3) s m args below meth c (MQ below (va_Qi Q (WPost dC dI cA al sh A) A) args s 0 0 A) dC dI cA A 5 0 0 al sh 24 [(0, .ref 61), (1, .int a1), (2, .int x2), (3, .int x3), (4, .int x4)] [] σ := by
  intro f
  induction f with
  | zero => intro σ x2 x4 h; exact False.elim h
  | succ f ih => intro σ x2 x4 h; exact w_X9_meetingsOf_L24b (Q := Q) (a1 := a1) C hr hlk hs hK96 ih h
set_option maxRecDepth 100000 in
set_option maxHeartbeats 4000000 in
theorem w_X9_meetingsOf_J96 {p : Program} {l : Launch} {e : Env} {s : State} {m : MethodId} {args : Array Value} {below : List Frame} {meth : Method} {c : Code} {dC : Nat → ClassId} {dI : Nat → Nat → Nat} {cA : Nat → ClassId} {A : Nat → Prop} {al : Nat → Nat} {sh : List Kd} (C : Fx p s m args c cX9_meetingsOf 5 yX9_meetingsOf.cls dC dI cA A al) (hr : meth.sig.returnType = some .int) (hlk : meth.locks = false) (hs : ShC sh) {a1 : Int32} {Q : Int32 → St → Prop} {K102 : St → Int32 → Prop} (hK102 : ∀ (σ : St) (x2 : Int32), K102 σ x2 → WW p l e (RM 3) s m args below meth c (MQ below (va_Qi Q (WPost dC dI cA al sh A) A) args s 0 0 A) dC dI cA A 5 0 0 al sh 102 [(2, .int x2)] [] σ) {Rc : St → Int32 → Int32 → Prop} (hRc : ∀ (σ : St) (x2 : Int32) (x3 : Int32), Rc σ x2 x3 → WW p l e (RM 3) s m args below meth c (MQ below (va_Qi Q (WPost dC dI cA al sh A) A) args s 0 0 A) dC dI cA A 5 0 0 al sh 10 [(0, .ref 61), (1, .int a1), (2, .int x2), (3, .int x3)] [] σ) {σ : St} {x2 : Int32} {x3 : Int32} (h : m_X9_meetingsOf_J96 a1 Q K102 Rc σ x2 x3) : WW p l e (RM 3) s m args below meth c (MQ below (va_Qi Q (WPost dC dI cA al sh A) A) args s 0 0 A) dC dI cA A 5 0 0 al sh 96 [(0, .ref 61), (1, .int a1), (2, .int x2), (3, .int x3)] [] σ := by
  unfold m_X9_meetingsOf_J96 at h
  refine ww_iinc (v := (x3 + 1)) (lv' := [(3, .int (x3 + 1)), (0, .ref 61), (1, .int a1), (2, .int x2)]) C 3 rfl dX9_meetingsOf_96 rfl (by decide) rfl ?_
  refine ww_goto (tgt := 10) C dX9_meetingsOf_99 (by decide) ?_
  refine ww_sub [1, 2, 3, 0] rfl ?_
  exact hRc _ _ _ h
set_option maxRecDepth 100000 in
set_option maxHeartbeats 4000000 in
theorem w_X9_meetingsOf_L10b {p : Program} {l : Launch} {e : Env} {s : State} {m : MethodId} {args : Array Value} {below : List Frame} {meth : Method} {c : Code} {dC : Nat → ClassId} {dI : Nat → Nat → Nat} {cA : Nat → ClassId} {A : Nat → Prop} {al : Nat → Nat} {sh : List Kd} (C : Fx p s m args c cX9_meetingsOf 5 yX9_meetingsOf.cls dC dI cA A al) (hr : meth.sig.returnType = some .int) (hlk : meth.locks = false) (hs : ShC sh) {a1 : Int32} {Q : Int32 → St → Prop} {K102 : St → Int32 → Prop} (hK102 : ∀ (σ : St) (x2 : Int32), K102 σ x2 → WW p l e (RM 3) s m args below meth c (MQ below (va_Qi Q (WPost dC dI cA al sh A) A) args s 0 0 A) dC dI cA A 5 0 0 al sh 102 [(2, .int x2)] [] σ) {Rc : St → Int32 → Int32 → Prop} (hRc : ∀ (σ : St) (x2 : Int32) (x3 : Int32), Rc σ x2 x3 → WW p l e (RM 3) s m args below meth c (MQ below (va_Qi Q (WPost dC dI cA al sh A) A) args s 0 0 A) dC dI cA A 5 0 0 al sh 10 [(0, .ref 61), (1, .int a1), (2, .int x2), (3, .int x3)] [] σ) {σ : St} {x2 : Int32} {x3 : Int32} (h : m_X9_meetingsOf_L10b a1 Q K102 Rc σ x2 x3) : WW p l e (RM 3) s m args below meth c (MQ below (va_Qi Q (WPost dC dI cA al sh A) A) args s 0 0 A) dC dI cA A 5 0 0 al sh 10 [(0, .ref 61), (1, .int a1), (2, .int x2), (3, .int x3)] [] σ := by
  unfold m_X9_meetingsOf_L10b at h
  refine ww_iload_n C 3 rfl dX9_meetingsOf_10 ?_
  refine ww_aload_n C 0 rfl dX9_meetingsOf_11 ?_
  refine ww_iconst (v := 0) C dX9_meetingsOf_12 (by decide) ?_
  refine ww_vi (n := 1) (As := [.int 0]) (rest := [.int x3]) C (c_X9_many hs h) (shc_61 hs) rfl nq_291 nq_292 nq_293 nq_5 nq_294 (by decide +kernel) rfl rfl ⟨Nat.le_of_ble_eq_true rfl, Nat.le_of_ble_eq_true rfl, Nat.le_of_ble_eq_true rfl, Nat.le_of_ble_eq_true rfl⟩ (Nat.le_of_ble_eq_true rfl) dX9_meetingsOf_13 (fun r13 σ13 h => ?_)
  refine ww_icmp_ge (tgt := 102) C dX9_meetingsOf_16 (by decide) (fun hc => ?_) (fun hc => ?_)
  · have h := h.1 hc
    refine ww_sub [2] rfl ?_
    exact hK102 _ _ h
  · have h := h.2 hc
    refine ww_iload_n C 3 rfl dX9_meetingsOf_19 ?_
    refine ww_iconst (v := 1) C dX9_meetingsOf_20 (by decide) ?_
    refine ww_iadd C dX9_meetingsOf_21 ?_
    refine ww_nmI h (fun y22 h => ?_)
    refine ww_istore (lv' := [(4, .int y22), (0, .ref 61), (1, .int a1), (2, .int x2), (3, .int x3)]) C dX9_meetingsOf_22 (by decide) rfl ?_
    refine ww_sub [1, 2, 3, 4, 0] rfl ?_
    obtain ⟨f, h⟩ := h
    exact w_X9_meetingsOf_L24 (Q := Q) (a1 := a1) C hr hlk hs (fun σ x2 h => by exact w_X9_meetingsOf_J96 (Q := Q) (a1 := a1) C hr hlk hs hK102 hRc h) f _ _ _ h
set_option maxRecDepth 100000 in
set_option maxHeartbeats 4000000 in
theorem w_X9_meetingsOf_L10 {p : Program} {l : Launch} {e : Env} {s : State} {m : MethodId} {args : Array Value} {below : List Frame} {meth : Method} {c : Code} {dC : Nat → ClassId} {dI : Nat → Nat → Nat} {cA : Nat → ClassId} {A : Nat → Prop} {al : Nat → Nat} {sh : List Kd} (C : Fx p s m args c cX9_meetingsOf 5 yX9_meetingsOf.cls dC dI cA A al) (hr : meth.sig.returnType = some .int) (hlk : meth.locks = false) (hs : ShC sh) {a1 : Int32} {Q : Int32 → St → Prop} {K102 : St → Int32 → Prop} (hK102 : ∀ (σ : St) (x2 : Int32), K102 σ x2 → WW p l e (RM 3) s m args below meth c (MQ below (va_Qi Q (WPost dC dI cA al sh A) A) args s 0 0 A) dC dI cA A 5 0 0 al sh 102 [(2, .int x2)] [] σ) : ∀ (f : Nat) (σ : St) (x2 : Int32) (x3 : Int32), m_X9_meetingsOf_L10 a1 Q K102 f σ x2 x3 → WW p l e (RM 3) s m args below meth c (MQ below (va_Qi Q (WPost dC dI cA al sh A) A) args s 0 0 A) dC dI cA A 5 0 0 al sh 10 [(0, .ref 61), (1, .int a1), (2, .int x2), (3, .int x3)] [] σ := by
  intro f
  induction f with
  | zero => intro σ x2 x3 h; exact False.elim h
  | succ f ih => intro σ x2 x3 h; exact w_X9_meetingsOf_L10b (Q := Q) (a1 := a1) C hr hlk hs hK102 ih h
set_option maxRecDepth 100000 in
set_option maxHeartbeats 4000000 in
theorem w_X9_meetingsOf_J102 {p : Program} {l : Launch} {e : Env} {s : State} {m : MethodId} {args : Array Value} {below : List Frame} {meth : Method} {c : Code} {dC : Nat → ClassId} {dI : Nat → Nat → Nat} {cA : Nat → ClassId} {A : Nat → Prop} {al : Nat → Nat} {sh : List Kd} (C : Fx p s m args c cX9_meetingsOf 5 yX9_meetingsOf.cls dC dI cA A al) (hr : meth.sig.returnType = some .int) (hlk : meth.locks = false) (hs : ShC sh) {a1 : Int32} {Q : Int32 → St → Prop} {σ : St} {x2 : Int32} (h : m_X9_meetingsOf_J102 a1 Q σ x2) : WW p l e (RM 3) s m args below meth c (MQ below (va_Qi Q (WPost dC dI cA al sh A) A) args s 0 0 A) dC dI cA A 5 0 0 al sh 102 [(2, .int x2)] [] σ := by
  unfold m_X9_meetingsOf_J102 at h
  refine ww_iload_n C 0 rfl dX9_meetingsOf_102 ?_
  exact ww_iret C hr hlk h dX9_meetingsOf_103
set_option maxRecDepth 100000 in
set_option maxHeartbeats 4000000 in
theorem c_X9_meetingsOf {l : Launch} {dC : Nat → ClassId} {dI : Nat → Nat → Nat} {cA : Nat → ClassId} {al : Nat → Nat} {sh : List Kd} (hs : ShC sh) {σ : St} {a1 : Int32} {Q : Int32 → St → Prop} (h : m_X9_meetingsOf σ a1 Q) : ∀ sz, Met l yX9_meetingsOf (wd yX9_meetingsOf cX9_meetingsOf 5 (some .int)) (RM 3) (va_Pc ([.ref 61, .int a1].map (cv al)) (WPre dC dI cA al sh σ sz)) (va_Qi Q (WPost dC dI cA al sh (AW al sh sz)) (AW al sh sz)) 0 0 (AW al sh sz) := by
  refine ww_met (Qc := fun A => va_Qi Q (WPost dC dI cA al sh A) A) (by decide +kernel) (Nat.le_of_ble_eq_true rfl) (fun p e s m args below meth c A C hr hlk => ?_)
  show WW p l e (RM 3) s m args below meth c (MQ below (va_Qi Q (WPost dC dI cA al sh A) A) args s 0 0 A) dC dI cA A 5 0 0 al sh 0 [(0, .ref 61), (1, .int a1)] [] σ
  unfold m_X9_meetingsOf at h
  refine ww_iconst (v := 0) C dX9_meetingsOf_0 (by decide) ?_
  refine ww_istore_n (lv' := [(2, .int 0), (0, .ref 61), (1, .int a1)]) C dX9_meetingsOf_1 rfl (by decide) rfl ?_
  refine ww_aload_n C 1 rfl dX9_meetingsOf_2 ?_
  refine ww_bipush (v := -9) C dX9_meetingsOf_3 (by decide) ?_
  refine ww_putI C (shc_61 hs) rfl inG9 19 (by decide) nq_543 tyX9 tyX9_ok nmX9 rfl (by decide +kernel) rfl dX9_meetingsOf_5 h (fun σ5 h => ?_)
  refine ww_iconst (v := 0) C dX9_meetingsOf_8 (by decide) ?_
  refine ww_istore_n (lv' := [(3, .int 0), (2, .int 0), (0, .ref 61), (1, .int a1)]) C dX9_meetingsOf_9 rfl (by decide) rfl ?_
  refine ww_sub [2, 3, 1, 0] rfl ?_
  obtain ⟨f, h⟩ := h
  exact w_X9_meetingsOf_L10 (Q := Q) (a1 := a1) C hr hlk hs (fun σ x2 h => by exact w_X9_meetingsOf_J102 (Q := Q) (a1 := a1) C hr hlk hs h) f _ _ _ h
set_option maxRecDepth 100000 in
set_option maxHeartbeats 4000000 in
theorem c_X9_meetings {l : Launch} {dC : Nat → ClassId} {dI : Nat → Nat → Nat} {cA : Nat → ClassId} {al : Nat → Nat} {sh : List Kd} (hs : ShC sh) {σ : St} {a1 : Int32} {a2 : Int32} {Q : Int32 → St → Prop} (h : m_X9_meetings σ a1 a2 Q) : ∀ sz, Met l yX9_meetings (wd yX9_meetings cX9_meetings 4 (some .int)) (RM 4) (va_Pc ([.ref 61, .int a1, .int a2].map (cv al)) (WPre dC dI cA al sh σ sz)) (va_Qi Q (WPost dC dI cA al sh (AW al sh sz)) (AW al sh sz)) 0 0 (AW al sh sz) := by
  refine ww_met (Qc := fun A => va_Qi Q (WPost dC dI cA al sh A) A) (by decide +kernel) (Nat.le_of_ble_eq_true rfl) (fun p e s m args below meth c A C hr hlk => ?_)
  show WW p l e (RM 4) s m args below meth c (MQ below (va_Qi Q (WPost dC dI cA al sh A) A) args s 0 0 A) dC dI cA A 4 0 0 al sh 0 [(0, .ref 61), (1, .int a1), (2, .int a2)] [] σ
  unfold m_X9_meetings at h
  refine ww_iload_n C 1 rfl dX9_meetings_0 ?_
  refine ww_si (n := 1) (As := [.int a1]) (rest := []) C (c_X9_isFour hs h) nq_482 nq_483 nq_5 nq_484 (by decide +kernel) rfl rfl ⟨Nat.le_of_ble_eq_true rfl, Nat.le_of_ble_eq_true rfl, Nat.le_of_ble_eq_true rfl, Nat.le_of_ble_eq_true rfl⟩ (Nat.le_of_ble_eq_true rfl) dX9_meetings_1 (fun r1 σ1 h => ?_)
  refine ww_if_ne (tgt := 9) C dX9_meetings_4 (by decide) (fun hc => ?_) (fun hc => ?_)
  · have h := h.1 hc
    refine ww_iload_n C 2 rfl dX9_meetings_9 ?_
    refine ww_i2l C dX9_meetings_10 ?_
    refine ww_lconst (v := 0) C dX9_meetings_11 (by decide) ?_
    refine ww_lconst (v := 1) C dX9_meetings_12 (by decide) ?_
    refine ww_si (n := 3) (As := [.long (a2.toInt64), .long 0, .long 1]) (rest := []) C (c_X9_in hs h) nq_159 nq_160 nq_5 nq_161 (by decide +kernel) rfl rfl ⟨Nat.le_of_ble_eq_true rfl, Nat.le_of_ble_eq_true rfl, Nat.le_of_ble_eq_true rfl, Nat.le_of_ble_eq_true rfl⟩ (Nat.le_of_ble_eq_true rfl) dX9_meetings_13 (fun r13 σ13 h => ?_)
    refine ww_if_ne (tgt := 22) C dX9_meetings_16 (by decide) (fun hc => ?_) (fun hc => ?_)
    · have h := h.1 hc
      refine ww_aload_n C 0 rfl dX9_meetings_22 ?_
      refine ww_iconst (v := 0) C dX9_meetings_23 (by decide) ?_
      refine ww_vv (n := 1) (As := [.int 0]) (rest := []) C (c_X9_findHeld hs h) (shc_61 hs) rfl nq_323 nq_324 nq_325 nq_5 nq_326 (by decide +kernel) rfl rfl ⟨Nat.le_of_ble_eq_true rfl, Nat.le_of_ble_eq_true rfl, Nat.le_of_ble_eq_true rfl, Nat.le_of_ble_eq_true rfl⟩ (Nat.le_of_ble_eq_true rfl) dX9_meetings_24 (fun σ24 h => ?_)
      refine ww_aload_n C 0 rfl dX9_meetings_27 ?_
      refine ww_iconst (v := 0) C dX9_meetings_28 (by decide) ?_
      refine ww_vv (n := 1) (As := [.int 0]) (rest := []) C (c_X9_findBefore hs h) (shc_61 hs) rfl nq_517 nq_518 nq_519 nq_5 nq_520 (by decide +kernel) rfl rfl ⟨Nat.le_of_ble_eq_true rfl, Nat.le_of_ble_eq_true rfl, Nat.le_of_ble_eq_true rfl, Nat.le_of_ble_eq_true rfl⟩ (Nat.le_of_ble_eq_true rfl) dX9_meetings_29 (fun σ29 h => ?_)
      refine ww_aload_n C 0 rfl dX9_meetings_32 ?_
      refine ww_iload_n C 1 rfl dX9_meetings_33 ?_
      refine ww_vi (n := 1) (As := [.int a1]) (rest := []) C (c_X9_meetingsOf hs h) (shc_61 hs) rfl nq_544 nq_545 nq_546 nq_5 nq_547 (by decide +kernel) rfl rfl ⟨Nat.le_of_ble_eq_true rfl, Nat.le_of_ble_eq_true rfl, Nat.le_of_ble_eq_true rfl, Nat.le_of_ble_eq_true rfl⟩ (Nat.le_of_ble_eq_true rfl) dX9_meetings_34 (fun r34 σ34 h => ?_)
      refine ww_istore_n (lv' := [(3, .int r34), (0, .ref 61), (1, .int a1), (2, .int a2)]) C dX9_meetings_37 rfl (by decide) rfl ?_
      refine ww_iload_n C 3 rfl dX9_meetings_38 ?_
      refine ww_if_ne (tgt := 46) C dX9_meetings_39 (by decide) (fun hc => ?_) (fun hc => ?_)
      · have h := h.1 hc
        refine ww_aload_n C 1 rfl dX9_meetings_46 ?_
        refine ww_getI C (shc_61 hs) rfl inG9 19 (by decide) nq_543 rfl dX9_meetings_47 ?_
        exact ww_iret C hr hlk h dX9_meetings_50
      · have h := h.2 hc
        refine ww_iload_n C 0 rfl dX9_meetings_42 ?_
        refine ww_goto (tgt := 50) C dX9_meetings_43 (by decide) ?_
        exact ww_iret C hr hlk h dX9_meetings_50
    · have h := h.2 hc
      refine ww_bipush (v := -2) C dX9_meetings_19 (by decide) ?_
      exact ww_iret C hr hlk h dX9_meetings_21
  · have h := h.2 hc
    refine ww_iconst (v := -1) C dX9_meetings_7 (by decide) ?_
    exact ww_iret C hr hlk h dX9_meetings_8
set_option maxRecDepth 100000 in
set_option maxHeartbeats 4000000 in
theorem w_X9_findEdges_L18b {p : Program} {l : Launch} {e : Env} {s : State} {m : MethodId} {args : Array Value} {below : List Frame} {meth : Method} {c : Code} {dC : Nat → ClassId} {dI : Nat → Nat → Nat} {cA : Nat → ClassId} {A : Nat → Prop} {al : Nat → Nat} {sh : List Kd} (C : Fx p s m args c cX9_findEdges 4 yX9_findEdges.cls dC dI cA A al) (hr : meth.sig.returnType = none) (hlk : meth.locks = false) (hs : ShC sh) {a1 : Int32} {Q : St → Prop} {x2 : Int32} {K104 : St → Prop} (hK104 : ∀ (σ : St), K104 σ → WW p l e (RM 1) s m args below meth c (MQ below (va_Qv Q (WPost dC dI cA al sh A) A) args s 0 0 A) dC dI cA A 4 0 0 al sh 104 [(0, .ref 61), (1, .int a1), (2, .int x2)] [] σ) {Rc : St → Int32 → Prop} (hRc : ∀ (σ : St) (x3 : Int32), Rc σ x3 → WW p l e (RM 1) s m args below meth c (MQ below (va_Qv Q (WPost dC dI cA al sh A) A) args s 0 0 A) dC dI cA A 4 0 0 al sh 18 [(0, .ref 61), (1, .int a1), (2, .int x2), (3, .int x3)] [] σ) {σ : St} {x3 : Int32} (h : m_X9_findEdges_L18b a1 Q x2 K104 Rc σ x3) : WW p l e (RM 1) s m args below meth c (MQ below (va_Qv Q (WPost dC dI cA al sh A) A) args s 0 0 A) dC dI cA A 4 0 0 al sh 18 [(0, .ref 61), (1, .int a1), (2, .int x2), (3, .int x3)] [] σ := by
  unfold m_X9_findEdges_L18b at h
  refine ww_iload_n C 3 rfl dX9_findEdges_18 ?_
  refine ww_iconst (v := 4) C dX9_findEdges_19 (by decide) ?_
  refine ww_icmp_ge (tgt := 104) C dX9_findEdges_20 (by decide) (fun hc => ?_) (fun hc => ?_)
  · have h := h.1 hc
    refine ww_sub [0, 1, 2] rfl ?_
    exact hK104 _ h
  · have h := h.2 hc
    refine ww_aload_n C 0 rfl dX9_findEdges_23 ?_
    refine ww_iload_n C 1 rfl dX9_findEdges_24 ?_
    refine ww_iload_n C 2 rfl dX9_findEdges_25 ?_
    refine ww_vi (n := 2) (As := [.int a1, .int x2]) (rest := []) C (c_X9_signAt hs h) (shc_61 hs) rfl nq_331 nq_332 nq_333 nq_5 nq_334 (by decide +kernel) rfl rfl ⟨Nat.le_of_ble_eq_true rfl, Nat.le_of_ble_eq_true rfl, Nat.le_of_ble_eq_true rfl, Nat.le_of_ble_eq_true rfl⟩ (Nat.le_of_ble_eq_true rfl) dX9_findEdges_26 (fun r26 σ26 h => ?_)
    refine ww_iconst (v := 2) C dX9_findEdges_29 (by decide) ?_
    refine ww_icmp_ge (tgt := 104) C dX9_findEdges_30 (by decide) (fun hc => ?_) (fun hc => ?_)
    · have h := h.1 hc
      refine ww_sub [0, 1, 2] rfl ?_
      exact hK104 _ h
    · have h := h.2 hc
      refine ww_aload_n C 0 rfl dX9_findEdges_33 ?_
      refine ww_getR C (shc_61 hs) rfl inG9 8 (by decide) nq_126 rfl dX9_findEdges_34 ?_
      refine ww_iload_n C 2 rfl dX9_findEdges_37 ?_
      refine ww_iald C (shc_67 hs) h.1 dX9_findEdges_38 ?_
      have h := h.2
      refine ww_aload_n C 0 rfl dX9_findEdges_39 ?_
      refine ww_getR C (shc_61 hs) rfl inG9 9 (by decide) nq_127 rfl dX9_findEdges_40 ?_
      refine ww_iload_n C 2 rfl dX9_findEdges_43 ?_
      refine ww_iald C (shc_68 hs) h.1 dX9_findEdges_44 ?_
      have h := h.2
      refine ww_ior C dX9_findEdges_45 ?_
      refine ww_iload_n C 3 rfl dX9_findEdges_46 ?_
      refine ww_si (n := 2) (As := [.int ((σ26.1 67 x2.toNatClampNeg) ||| (σ26.1 68 x2.toNatClampNeg)), .int x3]) (rest := []) C (c_X9_has hs h) nq_244 nq_245 nq_5 nq_246 (by decide +kernel) rfl rfl ⟨Nat.le_of_ble_eq_true rfl, Nat.le_of_ble_eq_true rfl, Nat.le_of_ble_eq_true rfl, Nat.le_of_ble_eq_true rfl⟩ (Nat.le_of_ble_eq_true rfl) dX9_findEdges_47 (fun r47 σ47 h => ?_)
      refine ww_if_eq (tgt := 98) C dX9_findEdges_50 (by decide) (fun hc => ?_) (fun hc => ?_)
      · have h := h.1 hc
        refine ww_iinc (v := (x3 + 1)) (lv' := [(3, .int (x3 + 1)), (0, .ref 61), (1, .int a1), (2, .int x2)]) C 3 rfl dX9_findEdges_98 rfl (by decide) rfl ?_
        refine ww_goto (tgt := 18) C dX9_findEdges_101 (by decide) ?_
        refine ww_sub [1, 2, 3, 0] rfl ?_
        exact hRc _ _ h
      · have h := h.2 hc
        refine ww_aload_n C 0 rfl dX9_findEdges_53 ?_
        refine ww_getR C (shc_61 hs) rfl inG9 21 (by decide) nq_130 rfl dX9_findEdges_54 ?_
        refine ww_aload_n C 0 rfl dX9_findEdges_57 ?_
        refine ww_getI C (shc_61 hs) rfl inG9 20 (by decide) nq_579 rfl dX9_findEdges_58 ?_
        refine ww_iload_n C 2 rfl dX9_findEdges_61 ?_
        refine ww_iast C (shc_71 hs) h.1 dX9_findEdges_62 h.2 (fun σ62 h => ?_)
        refine ww_aload_n C 0 rfl dX9_findEdges_63 ?_
        refine ww_getR C (shc_61 hs) rfl inG9 22 (by decide) nq_131 rfl dX9_findEdges_64 ?_
        refine ww_aload_n C 0 rfl dX9_findEdges_67 ?_
        refine ww_getI C (shc_61 hs) rfl inG9 20 (by decide) nq_579 rfl dX9_findEdges_68 ?_
        refine ww_iload_n C 3 rfl dX9_findEdges_71 ?_
        refine ww_iast C (shc_72 hs) h.1 dX9_findEdges_72 h.2 (fun σ72 h => ?_)
        refine ww_aload_n C 0 rfl dX9_findEdges_73 ?_
        refine ww_getR C (shc_61 hs) rfl inG9 23 (by decide) nq_132 rfl dX9_findEdges_74 ?_
        refine ww_aload_n C 0 rfl dX9_findEdges_77 ?_
        refine ww_getI C (shc_61 hs) rfl inG9 20 (by decide) nq_579 rfl dX9_findEdges_78 ?_
        refine ww_aload_n C 0 rfl dX9_findEdges_81 ?_
        refine ww_iload_n C 1 rfl dX9_findEdges_82 ?_
        refine ww_iload_n C 2 rfl dX9_findEdges_83 ?_
        refine ww_vi (n := 2) (As := [.int a1, .int x2]) (rest := [.int (σ72.1 61 20), .ref 73]) C (c_X9_aboutAt hs h) (shc_61 hs) rfl nq_335 nq_336 nq_337 nq_5 nq_338 (by decide +kernel) rfl rfl ⟨Nat.le_of_ble_eq_true rfl, Nat.le_of_ble_eq_true rfl, Nat.le_of_ble_eq_true rfl, Nat.le_of_ble_eq_true rfl⟩ (Nat.le_of_ble_eq_true rfl) dX9_findEdges_84 (fun r84 σ84 h => ?_)
        refine ww_iast C (shc_73 hs) h.1 dX9_findEdges_87 h.2 (fun σ87 h => ?_)
        refine ww_aload_n C 0 rfl dX9_findEdges_88 ?_
        refine ww_dup C rfl dX9_findEdges_89 ?_
        refine ww_getI C (shc_61 hs) rfl inG9 20 (by decide) nq_579 rfl dX9_findEdges_90 ?_
        refine ww_iconst (v := 1) C dX9_findEdges_93 (by decide) ?_
        refine ww_iadd C dX9_findEdges_94 ?_
        refine ww_putI C (shc_61 hs) rfl inG9 20 (by decide) nq_579 tyX9 tyX9_ok nmX9 rfl (by decide +kernel) rfl dX9_findEdges_95 h (fun σ95 h => ?_)
        refine ww_iinc (v := (x3 + 1)) (lv' := [(3, .int (x3 + 1)), (0, .ref 61), (1, .int a1), (2, .int x2)]) C 3 rfl dX9_findEdges_98 rfl (by decide) rfl ?_
        refine ww_goto (tgt := 18) C dX9_findEdges_101 (by decide) ?_
        refine ww_sub [1, 2, 3, 0] rfl ?_
        exact hRc _ _ h
set_option maxRecDepth 100000 in
set_option maxHeartbeats 4000000 in
theorem w_X9_findEdges_L18 {p : Program} {l : Launch} {e : Env} {s : State} {m : MethodId} {args : Array Value} {below : List Frame} {meth : Method} {c : Code} {dC : Nat → ClassId} {dI : Nat → Nat → Nat} {cA : Nat → ClassId} {A : Nat → Prop} {al : Nat → Nat} {sh : List Kd} (C : Fx p s m args c cX9_findEdges 4 yX9_findEdges.cls dC dI cA A al) (hr : meth.sig.returnType = none) (hlk : meth.locks = false) (hs : ShC sh) {a1 : Int32} {Q : St → Prop} {x2 : Int32} {K104 : St → Prop} (hK104 : ∀ (σ : St), K104 σ → WW p l e (RM 1) s m args below meth c (MQ below (va_Qv Q (WPost dC dI cA al sh A) A) args s 0 0 A) dC dI cA A 4 0 0 al sh 104 [(0, .ref 61), (1, .int a1), (2, .int x2)] [] σ) : ∀ (f : Nat) (σ : St) (x3 : Int32), m_X9_findEdges_L18 a1 Q x2 K104 f σ x3 → WW p l e (RM 1) s m args below meth c (MQ below (va_Qv Q (WPost dC dI cA al sh A) A) args s 0 0 A) dC dI cA A 4 0 0 al sh 18 [(0, .ref 61), (1, .int a1), (2, .int x2), (3, .int x3)] [] σ := by
  intro f
  induction f with
  | zero => intro σ x3 h; exact False.elim h
  | succ f ih => intro σ x3 h; exact w_X9_findEdges_L18b (Q := Q) (a1 := a1) C hr hlk hs hK104 ih h
set_option maxRecDepth 100000 in
set_option maxHeartbeats 4000000 in
theorem w_X9_findEdges_J104 {p : Program} {l : Launch} {e : Env} {s : State} {m : MethodId} {args : Array Value} {below : List Frame} {meth : Method} {c : Code} {dC : Nat → ClassId} {dI : Nat → Nat → Nat} {cA : Nat → ClassId} {A : Nat → Prop} {al : Nat → Nat} {sh : List Kd} (C : Fx p s m args c cX9_findEdges 4 yX9_findEdges.cls dC dI cA A al) (hr : meth.sig.returnType = none) (hlk : meth.locks = false) (hs : ShC sh) {a1 : Int32} {Q : St → Prop} {K110 : St → Prop} (hK110 : ∀ (σ : St), K110 σ → WW p l e (RM 1) s m args below meth c (MQ below (va_Qv Q (WPost dC dI cA al sh A) A) args s 0 0 A) dC dI cA A 4 0 0 al sh 110 [] [] σ) {Rc : St → Int32 → Prop} (hRc : ∀ (σ : St) (x2 : Int32), Rc σ x2 → WW p l e (RM 1) s m args below meth c (MQ below (va_Qv Q (WPost dC dI cA al sh A) A) args s 0 0 A) dC dI cA A 4 0 0 al sh 7 [(0, .ref 61), (1, .int a1), (2, .int x2)] [] σ) {σ : St} {x2 : Int32} (h : m_X9_findEdges_J104 a1 Q K110 Rc σ x2) : WW p l e (RM 1) s m args below meth c (MQ below (va_Qv Q (WPost dC dI cA al sh A) A) args s 0 0 A) dC dI cA A 4 0 0 al sh 104 [(0, .ref 61), (1, .int a1), (2, .int x2)] [] σ := by
  unfold m_X9_findEdges_J104 at h
  refine ww_iinc (v := (x2 + 1)) (lv' := [(2, .int (x2 + 1)), (0, .ref 61), (1, .int a1)]) C 2 rfl dX9_findEdges_104 rfl (by decide) rfl ?_
  refine ww_goto (tgt := 7) C dX9_findEdges_107 (by decide) ?_
  refine ww_sub [1, 2, 0] rfl ?_
  exact hRc _ _ h
set_option maxRecDepth 100000 in
set_option maxHeartbeats 4000000 in
theorem w_X9_findEdges_L7b {p : Program} {l : Launch} {e : Env} {s : State} {m : MethodId} {args : Array Value} {below : List Frame} {meth : Method} {c : Code} {dC : Nat → ClassId} {dI : Nat → Nat → Nat} {cA : Nat → ClassId} {A : Nat → Prop} {al : Nat → Nat} {sh : List Kd} (C : Fx p s m args c cX9_findEdges 4 yX9_findEdges.cls dC dI cA A al) (hr : meth.sig.returnType = none) (hlk : meth.locks = false) (hs : ShC sh) {a1 : Int32} {Q : St → Prop} {K110 : St → Prop} (hK110 : ∀ (σ : St), K110 σ → WW p l e (RM 1) s m args below meth c (MQ below (va_Qv Q (WPost dC dI cA al sh A) A) args s 0 0 A) dC dI cA A 4 0 0 al sh 110 [] [] σ) {Rc : St → Int32 → Prop} (hRc : ∀ (σ : St) (x2 : Int32), Rc σ x2 → WW p l e (RM 1) s m args below meth c (MQ below (va_Qv Q (WPost dC dI cA al sh A) A) args s 0 0 A) dC dI cA A 4 0 0 al sh 7 [(0, .ref 61), (1, .int a1), (2, .int x2)] [] σ) {σ : St} {x2 : Int32} (h : m_X9_findEdges_L7b a1 Q K110 Rc σ x2) : WW p l e (RM 1) s m args below meth c (MQ below (va_Qv Q (WPost dC dI cA al sh A) A) args s 0 0 A) dC dI cA A 4 0 0 al sh 7 [(0, .ref 61), (1, .int a1), (2, .int x2)] [] σ := by
  unfold m_X9_findEdges_L7b at h
  refine ww_iload_n C 2 rfl dX9_findEdges_7 ?_
  refine ww_aload_n C 0 rfl dX9_findEdges_8 ?_
  refine ww_iload_n C 1 rfl dX9_findEdges_9 ?_
  refine ww_vi (n := 1) (As := [.int a1]) (rest := [.int x2]) C (c_X9_many hs h) (shc_61 hs) rfl nq_291 nq_292 nq_293 nq_5 nq_294 (by decide +kernel) rfl rfl ⟨Nat.le_of_ble_eq_true rfl, Nat.le_of_ble_eq_true rfl, Nat.le_of_ble_eq_true rfl, Nat.le_of_ble_eq_true rfl⟩ (Nat.le_of_ble_eq_true rfl) dX9_findEdges_10 (fun r10 σ10 h => ?_)
  refine ww_icmp_ge (tgt := 110) C dX9_findEdges_13 (by decide) (fun hc => ?_) (fun hc => ?_)
  · have h := h.1 hc
    refine ww_sub [] rfl ?_
    exact hK110 _ h
  · have h := h.2 hc
    refine ww_iconst (v := 0) C dX9_findEdges_16 (by decide) ?_
    refine ww_istore_n (lv' := [(3, .int 0), (0, .ref 61), (1, .int a1), (2, .int x2)]) C dX9_findEdges_17 rfl (by decide) rfl ?_
    refine ww_sub [1, 2, 3, 0] rfl ?_
    obtain ⟨f, h⟩ := h
    exact w_X9_findEdges_L18 (Q := Q) (a1 := a1) C hr hlk hs (fun σ h => by exact w_X9_findEdges_J104 (Q := Q) (a1 := a1) C hr hlk hs hK110 hRc h) f _ _ h
set_option maxRecDepth 100000 in
set_option maxHeartbeats 4000000 in
theorem w_X9_findEdges_L7 {p : Program} {l : Launch} {e : Env} {s : State} {m : MethodId} {args : Array Value} {below : List Frame} {meth : Method} {c : Code} {dC : Nat → ClassId} {dI : Nat → Nat → Nat} {cA : Nat → ClassId} {A : Nat → Prop} {al : Nat → Nat} {sh : List Kd} (C : Fx p s m args c cX9_findEdges 4 yX9_findEdges.cls dC dI cA A al) (hr : meth.sig.returnType = none) (hlk : meth.locks = false) (hs : ShC sh) {a1 : Int32} {Q : St → Prop} {K110 : St → Prop} (hK110 : ∀ (σ : St), K110 σ → WW p l e (RM 1) s m args below meth c (MQ below (va_Qv Q (WPost dC dI cA al sh A) A) args s 0 0 A) dC dI cA A 4 0 0 al sh 110 [] [] σ) : ∀ (f : Nat) (σ : St) (x2 : Int32), m_X9_findEdges_L7 a1 Q K110 f σ x2 → WW p l e (RM 1) s m args below meth c (MQ below (va_Qv Q (WPost dC dI cA al sh A) A) args s 0 0 A) dC dI cA A 4 0 0 al sh 7 [(0, .ref 61), (1, .int a1), (2, .int x2)] [] σ := by
  intro f
  induction f with
  | zero => intro σ x2 h; exact False.elim h
  | succ f ih => intro σ x2 h; exact w_X9_findEdges_L7b (Q := Q) (a1 := a1) C hr hlk hs hK110 ih h
set_option maxRecDepth 100000 in
set_option maxHeartbeats 4000000 in
theorem w_X9_findEdges_J110 {p : Program} {l : Launch} {e : Env} {s : State} {m : MethodId} {args : Array Value} {below : List Frame} {meth : Method} {c : Code} {dC : Nat → ClassId} {dI : Nat → Nat → Nat} {cA : Nat → ClassId} {A : Nat → Prop} {al : Nat → Nat} {sh : List Kd} (C : Fx p s m args c cX9_findEdges 4 yX9_findEdges.cls dC dI cA A al) (hr : meth.sig.returnType = none) (hlk : meth.locks = false) (hs : ShC sh) {a1 : Int32} {Q : St → Prop} {σ : St} (h : m_X9_findEdges_J110 a1 Q σ) : WW p l e (RM 1) s m args below meth c (MQ below (va_Qv Q (WPost dC dI cA al sh A) A) args s 0 0 A) dC dI cA A 4 0 0 al sh 110 [] [] σ := by
  unfold m_X9_findEdges_J110 at h
  exact ww_vret C hr hlk h dX9_findEdges_110
set_option maxRecDepth 100000 in
set_option maxHeartbeats 4000000 in
theorem c_X9_findEdges {l : Launch} {dC : Nat → ClassId} {dI : Nat → Nat → Nat} {cA : Nat → ClassId} {al : Nat → Nat} {sh : List Kd} (hs : ShC sh) {σ : St} {a1 : Int32} {Q : St → Prop} (h : m_X9_findEdges σ a1 Q) : ∀ sz, Met l yX9_findEdges (wd yX9_findEdges cX9_findEdges 4 none) (RM 1) (va_Pc ([.ref 61, .int a1].map (cv al)) (WPre dC dI cA al sh σ sz)) (va_Qv Q (WPost dC dI cA al sh (AW al sh sz)) (AW al sh sz)) 0 0 (AW al sh sz) := by
  refine ww_met (Qc := fun A => va_Qv Q (WPost dC dI cA al sh A) A) (by decide +kernel) (Nat.le_of_ble_eq_true rfl) (fun p e s m args below meth c A C hr hlk => ?_)
  show WW p l e (RM 1) s m args below meth c (MQ below (va_Qv Q (WPost dC dI cA al sh A) A) args s 0 0 A) dC dI cA A 4 0 0 al sh 0 [(0, .ref 61), (1, .int a1)] [] σ
  unfold m_X9_findEdges at h
  refine ww_aload_n C 0 rfl dX9_findEdges_0 ?_
  refine ww_iconst (v := 0) C dX9_findEdges_1 (by decide) ?_
  refine ww_putI C (shc_61 hs) rfl inG9 20 (by decide) nq_579 tyX9 tyX9_ok nmX9 rfl (by decide +kernel) rfl dX9_findEdges_2 h (fun σ2 h => ?_)
  refine ww_iconst (v := 0) C dX9_findEdges_5 (by decide) ?_
  refine ww_istore_n (lv' := [(2, .int 0), (0, .ref 61), (1, .int a1)]) C dX9_findEdges_6 rfl (by decide) rfl ?_
  refine ww_sub [1, 2, 0] rfl ?_
  obtain ⟨f, h⟩ := h
  exact w_X9_findEdges_L7 (Q := Q) (a1 := a1) C hr hlk hs (fun σ h => by exact w_X9_findEdges_J110 (Q := Q) (a1 := a1) C hr hlk hs h) f _ _ h
set_option maxRecDepth 100000 in
set_option maxHeartbeats 4000000 in
theorem w_X9_edges_L29b {p : Program} {l : Launch} {e : Env} {s : State} {m : MethodId} {args : Array Value} {below : List Frame} {meth : Method} {c : Code} {dC : Nat → ClassId} {dI : Nat → Nat → Nat} {cA : Nat → ClassId} {A : Nat → Prop} {al : Nat → Nat} {sh : List Kd} (C : Fx p s m args c cX9_edges 4 yX9_edges.cls dC dI cA A al) (hr : meth.sig.returnType = some .int) (hlk : meth.locks = false) (hs : ShC sh) {a1 : Int32} {Q : Int32 → St → Prop} {K76 : St → Int32 → Prop} (hK76 : ∀ (σ : St) (x2 : Int32), K76 σ x2 → WW p l e (RM 2) s m args below meth c (MQ below (va_Qi Q (WPost dC dI cA al sh A) A) args s 0 0 A) dC dI cA A 4 0 0 al sh 76 [(2, .int x2)] [] σ) {Rc : St → Int32 → Int32 → Prop} (hRc : ∀ (σ : St) (x2 : Int32) (x3 : Int32), Rc σ x2 x3 → WW p l e (RM 2) s m args below meth c (MQ below (va_Qi Q (WPost dC dI cA al sh A) A) args s 0 0 A) dC dI cA A 4 0 0 al sh 29 [(0, .ref 61), (1, .int a1), (2, .int x2), (3, .int x3)] [] σ) {σ : St} {x2 : Int32} {x3 : Int32} (h : m_X9_edges_L29b a1 Q K76 Rc σ x2 x3) : WW p l e (RM 2) s m args below meth c (MQ below (va_Qi Q (WPost dC dI cA al sh A) A) args s 0 0 A) dC dI cA A 4 0 0 al sh 29 [(0, .ref 61), (1, .int a1), (2, .int x2), (3, .int x3)] [] σ := by
  unfold m_X9_edges_L29b at h
  refine ww_iload_n C 3 rfl dX9_edges_29 ?_
  refine ww_aload_n C 0 rfl dX9_edges_30 ?_
  refine ww_getI C (shc_61 hs) rfl inG9 20 (by decide) nq_579 rfl dX9_edges_31 ?_
  refine ww_icmp_ge (tgt := 76) C dX9_edges_34 (by decide) (fun hc => ?_) (fun hc => ?_)
  · have h := h.1 hc
    refine ww_sub [2] rfl ?_
    exact hK76 _ _ h
  · have h := h.2 hc
    refine ww_iload_n C 2 rfl dX9_edges_37 ?_
    refine ww_iload_n C 1 rfl dX9_edges_38 ?_
    refine ww_if_eq (tgt := 63) C dX9_edges_39 (by decide) (fun hc => ?_) (fun hc => ?_)
    · have h := h.1 hc
      refine ww_iconst (v := 1) C dX9_edges_63 (by decide) ?_
      refine ww_goto (tgt := 68) C dX9_edges_64 (by decide) ?_
      refine ww_iadd C dX9_edges_68 ?_
      refine ww_nmI h (fun y69 h => ?_)
      refine ww_istore_n (lv' := [(2, .int y69), (0, .ref 61), (1, .int a1), (3, .int x3)]) C dX9_edges_69 rfl (by decide) rfl ?_
      refine ww_iinc (v := (x3 + 1)) (lv' := [(3, .int (x3 + 1)), (2, .int y69), (0, .ref 61), (1, .int a1)]) C 3 rfl dX9_edges_70 rfl (by decide) rfl ?_
      refine ww_goto (tgt := 29) C dX9_edges_73 (by decide) ?_
      refine ww_sub [2, 3, 1, 0] rfl ?_
      exact hRc _ _ _ h
    · have h := h.2 hc
      refine ww_iload_n C 1 rfl dX9_edges_42 ?_
      refine ww_iconst (v := 1) C dX9_edges_43 (by decide) ?_
      refine ww_iconst (v := 4) C dX9_edges_44 (by decide) ?_
      refine ww_aload_n C 0 rfl dX9_edges_45 ?_
      refine ww_getR C (shc_61 hs) rfl inG9 22 (by decide) nq_131 rfl dX9_edges_46 ?_
      refine ww_iload_n C 3 rfl dX9_edges_49 ?_
      refine ww_iald C (shc_72 hs) h.1 dX9_edges_50 ?_
      have h := h.2
      refine ww_imul C dX9_edges_51 ?_
      refine ww_iadd C dX9_edges_52 ?_
      refine ww_aload_n C 0 rfl dX9_edges_53 ?_
      refine ww_getR C (shc_61 hs) rfl inG9 23 (by decide) nq_132 rfl dX9_edges_54 ?_
      refine ww_iload_n C 3 rfl dX9_edges_57 ?_
      refine ww_iald C (shc_73 hs) h.1 dX9_edges_58 ?_
      have h := h.2
      refine ww_iadd C dX9_edges_59 ?_
      refine ww_icmp_ne (tgt := 67) C dX9_edges_60 (by decide) (fun hc => ?_) (fun hc => ?_)
      · have h := h.1 hc
        refine ww_iconst (v := 0) C dX9_edges_67 (by decide) ?_
        refine ww_iadd C dX9_edges_68 ?_
        refine ww_nmI h (fun y69 h => ?_)
        refine ww_istore_n (lv' := [(2, .int y69), (0, .ref 61), (1, .int a1), (3, .int x3)]) C dX9_edges_69 rfl (by decide) rfl ?_
        refine ww_iinc (v := (x3 + 1)) (lv' := [(3, .int (x3 + 1)), (2, .int y69), (0, .ref 61), (1, .int a1)]) C 3 rfl dX9_edges_70 rfl (by decide) rfl ?_
        refine ww_goto (tgt := 29) C dX9_edges_73 (by decide) ?_
        refine ww_sub [2, 3, 1, 0] rfl ?_
        exact hRc _ _ _ h
      · have h := h.2 hc
        refine ww_iconst (v := 1) C dX9_edges_63 (by decide) ?_
        refine ww_goto (tgt := 68) C dX9_edges_64 (by decide) ?_
        refine ww_iadd C dX9_edges_68 ?_
        refine ww_nmI h (fun y69 h => ?_)
        refine ww_istore_n (lv' := [(2, .int y69), (0, .ref 61), (1, .int a1), (3, .int x3)]) C dX9_edges_69 rfl (by decide) rfl ?_
        refine ww_iinc (v := (x3 + 1)) (lv' := [(3, .int (x3 + 1)), (2, .int y69), (0, .ref 61), (1, .int a1)]) C 3 rfl dX9_edges_70 rfl (by decide) rfl ?_
        refine ww_goto (tgt := 29) C dX9_edges_73 (by decide) ?_
        refine ww_sub [2, 3, 1, 0] rfl ?_
        exact hRc _ _ _ h
set_option maxRecDepth 100000 in
set_option maxHeartbeats 4000000 in
theorem w_X9_edges_L29 {p : Program} {l : Launch} {e : Env} {s : State} {m : MethodId} {args : Array Value} {below : List Frame} {meth : Method} {c : Code} {dC : Nat → ClassId} {dI : Nat → Nat → Nat} {cA : Nat → ClassId} {A : Nat → Prop} {al : Nat → Nat} {sh : List Kd} (C : Fx p s m args c cX9_edges 4 yX9_edges.cls dC dI cA A al) (hr : meth.sig.returnType = some .int) (hlk : meth.locks = false) (hs : ShC sh) {a1 : Int32} {Q : Int32 → St → Prop} {K76 : St → Int32 → Prop} (hK76 : ∀ (σ : St) (x2 : Int32), K76 σ x2 → WW p l e (RM 2) s m args below meth c (MQ below (va_Qi Q (WPost dC dI cA al sh A) A) args s 0 0 A) dC dI cA A 4 0 0 al sh 76 [(2, .int x2)] [] σ) : ∀ (f : Nat) (σ : St) (x2 : Int32) (x3 : Int32), m_X9_edges_L29 a1 Q K76 f σ x2 x3 → WW p l e (RM 2) s m args below meth c (MQ below (va_Qi Q (WPost dC dI cA al sh A) A) args s 0 0 A) dC dI cA A 4 0 0 al sh 29 [(0, .ref 61), (1, .int a1), (2, .int x2), (3, .int x3)] [] σ := by
  intro f
  induction f with
  | zero => intro σ x2 x3 h; exact False.elim h
  | succ f ih => intro σ x2 x3 h; exact w_X9_edges_L29b (Q := Q) (a1 := a1) C hr hlk hs hK76 ih h
set_option maxRecDepth 100000 in
set_option maxHeartbeats 4000000 in
theorem w_X9_edges_J76 {p : Program} {l : Launch} {e : Env} {s : State} {m : MethodId} {args : Array Value} {below : List Frame} {meth : Method} {c : Code} {dC : Nat → ClassId} {dI : Nat → Nat → Nat} {cA : Nat → ClassId} {A : Nat → Prop} {al : Nat → Nat} {sh : List Kd} (C : Fx p s m args c cX9_edges 4 yX9_edges.cls dC dI cA A al) (hr : meth.sig.returnType = some .int) (hlk : meth.locks = false) (hs : ShC sh) {a1 : Int32} {Q : Int32 → St → Prop} {σ : St} {x2 : Int32} (h : m_X9_edges_J76 a1 Q σ x2) : WW p l e (RM 2) s m args below meth c (MQ below (va_Qi Q (WPost dC dI cA al sh A) A) args s 0 0 A) dC dI cA A 4 0 0 al sh 76 [(2, .int x2)] [] σ := by
  unfold m_X9_edges_J76 at h
  refine ww_iload_n C 0 rfl dX9_edges_76 ?_
  exact ww_iret C hr hlk h dX9_edges_77
set_option maxRecDepth 100000 in
set_option maxHeartbeats 4000000 in
theorem c_X9_edges {l : Launch} {dC : Nat → ClassId} {dI : Nat → Nat → Nat} {cA : Nat → ClassId} {al : Nat → Nat} {sh : List Kd} (hs : ShC sh) {σ : St} {a1 : Int32} {Q : Int32 → St → Prop} (h : m_X9_edges σ a1 Q) : ∀ sz, Met l yX9_edges (wd yX9_edges cX9_edges 4 (some .int)) (RM 2) (va_Pc ([.ref 61, .int a1].map (cv al)) (WPre dC dI cA al sh σ sz)) (va_Qi Q (WPost dC dI cA al sh (AW al sh sz)) (AW al sh sz)) 0 0 (AW al sh sz) := by
  refine ww_met (Qc := fun A => va_Qi Q (WPost dC dI cA al sh A) A) (by decide +kernel) (Nat.le_of_ble_eq_true rfl) (fun p e s m args below meth c A C hr hlk => ?_)
  show WW p l e (RM 2) s m args below meth c (MQ below (va_Qi Q (WPost dC dI cA al sh A) A) args s 0 0 A) dC dI cA A 4 0 0 al sh 0 [(0, .ref 61), (1, .int a1)] [] σ
  unfold m_X9_edges at h
  refine ww_iload_n C 1 rfl dX9_edges_0 ?_
  refine ww_i2l C dX9_edges_1 ?_
  refine ww_lconst (v := 0) C dX9_edges_2 (by decide) ?_
  refine ww_ldc2 (v := 16) C nq_578 dX9_edges_3 ?_
  refine ww_si (n := 3) (As := [.long (a1.toInt64), .long 0, .long 16]) (rest := []) C (c_X9_in hs h) nq_159 nq_160 nq_5 nq_161 (by decide +kernel) rfl rfl ⟨Nat.le_of_ble_eq_true rfl, Nat.le_of_ble_eq_true rfl, Nat.le_of_ble_eq_true rfl, Nat.le_of_ble_eq_true rfl⟩ (Nat.le_of_ble_eq_true rfl) dX9_edges_6 (fun r6 σ6 h => ?_)
  refine ww_if_ne (tgt := 15) C dX9_edges_9 (by decide) (fun hc => ?_) (fun hc => ?_)
  · have h := h.1 hc
    refine ww_aload_n C 0 rfl dX9_edges_15 ?_
    refine ww_iconst (v := 0) C dX9_edges_16 (by decide) ?_
    refine ww_vv (n := 1) (As := [.int 0]) (rest := []) C (c_X9_findHeld hs h) (shc_61 hs) rfl nq_323 nq_324 nq_325 nq_5 nq_326 (by decide +kernel) rfl rfl ⟨Nat.le_of_ble_eq_true rfl, Nat.le_of_ble_eq_true rfl, Nat.le_of_ble_eq_true rfl, Nat.le_of_ble_eq_true rfl⟩ (Nat.le_of_ble_eq_true rfl) dX9_edges_17 (fun σ17 h => ?_)
    refine ww_aload_n C 0 rfl dX9_edges_20 ?_
    refine ww_iconst (v := 0) C dX9_edges_21 (by decide) ?_
    refine ww_vv (n := 1) (As := [.int 0]) (rest := []) C (c_X9_findEdges hs h) (shc_61 hs) rfl nq_580 nq_581 nq_582 nq_5 nq_583 (by decide +kernel) rfl rfl ⟨Nat.le_of_ble_eq_true rfl, Nat.le_of_ble_eq_true rfl, Nat.le_of_ble_eq_true rfl, Nat.le_of_ble_eq_true rfl⟩ (Nat.le_of_ble_eq_true rfl) dX9_edges_22 (fun σ22 h => ?_)
    refine ww_iconst (v := 0) C dX9_edges_25 (by decide) ?_
    refine ww_istore_n (lv' := [(2, .int 0), (0, .ref 61), (1, .int a1)]) C dX9_edges_26 rfl (by decide) rfl ?_
    refine ww_iconst (v := 0) C dX9_edges_27 (by decide) ?_
    refine ww_istore_n (lv' := [(3, .int 0), (2, .int 0), (0, .ref 61), (1, .int a1)]) C dX9_edges_28 rfl (by decide) rfl ?_
    refine ww_sub [2, 3, 1, 0] rfl ?_
    obtain ⟨f, h⟩ := h
    exact w_X9_edges_L29 (Q := Q) (a1 := a1) C hr hlk hs (fun σ x2 h => by exact w_X9_edges_J76 (Q := Q) (a1 := a1) C hr hlk hs h) f _ _ _ h
  · have h := h.2 hc
    refine ww_bipush (v := -2) C dX9_edges_12 (by decide) ?_
    exact ww_iret C hr hlk h dX9_edges_14
set_option maxRecDepth 100000 in
set_option maxHeartbeats 4000000 in
theorem w_X9_follows_J46 {p : Program} {l : Launch} {e : Env} {s : State} {m : MethodId} {args : Array Value} {below : List Frame} {meth : Method} {c : Code} {dC : Nat → ClassId} {dI : Nat → Nat → Nat} {cA : Nat → ClassId} {A : Nat → Prop} {al : Nat → Nat} {sh : List Kd} (C : Fx p s m args c cX9_follows 4 yX9_follows.cls dC dI cA A al) (hr : meth.sig.returnType = some .boolean) (hlk : meth.locks = false) (hs : ShC sh) {a1 : Int32} {a2 : Int32} {Q : Int32 → St → Prop} {σ : St} {t0 : Int32} (h : m_X9_follows_J46 a1 a2 Q σ t0) : WW p l e (RM 1) s m args below meth c (MQ below (va_Qi Q (WPost dC dI cA al sh A) A) args s 0 0 A) dC dI cA A 4 0 0 al sh 46 [(0, .ref 61), (1, .int a1), (2, .int a2)] [.int t0] σ := by
  unfold m_X9_follows_J46 at h
  refine ww_istore_n (lv' := [(3, .int t0), (0, .ref 61), (1, .int a1), (2, .int a2)]) C dX9_follows_46 rfl (by decide) rfl ?_
  refine ww_aload_n C 1 rfl dX9_follows_47 ?_
  refine ww_getR C (shc_61 hs) rfl inG9 23 (by decide) nq_132 rfl dX9_follows_48 ?_
  refine ww_iload_n C 2 rfl dX9_follows_51 ?_
  refine ww_iald C (shc_73 hs) h.1 dX9_follows_52 ?_
  have h := h.2
  refine ww_aload_n C 1 rfl dX9_follows_53 ?_
  refine ww_getR C (shc_61 hs) rfl inG9 22 (by decide) nq_131 rfl dX9_follows_54 ?_
  refine ww_iload_n C 3 rfl dX9_follows_57 ?_
  refine ww_iald C (shc_72 hs) h.1 dX9_follows_58 ?_
  have h := h.2
  refine ww_icmp_ne (tgt := 70) C dX9_follows_59 (by decide) (fun hc => ?_) (fun hc => ?_)
  · have h := h.1 hc
    refine ww_iconst (v := 0) C dX9_follows_70 (by decide) ?_
    exact ww_zret C hr hlk (by decide) h dX9_follows_71
  · have h := h.2 hc
    refine ww_iload_n C 0 rfl dX9_follows_62 ?_
    refine ww_if_ne (tgt := 70) C dX9_follows_63 (by decide) (fun hc => ?_) (fun hc => ?_)
    · have h := h.1 hc
      refine ww_iconst (v := 0) C dX9_follows_70 (by decide) ?_
      exact ww_zret C hr hlk (by decide) h dX9_follows_71
    · have h := h.2 hc
      refine ww_iconst (v := 1) C dX9_follows_66 (by decide) ?_
      refine ww_goto (tgt := 71) C dX9_follows_67 (by decide) ?_
      exact ww_zret C hr hlk (by decide) h dX9_follows_71
set_option maxRecDepth 100000 in
set_option maxHeartbeats 4000000 in
theorem w_X9_follows_J45 {p : Program} {l : Launch} {e : Env} {s : State} {m : MethodId} {args : Array Value} {below : List Frame} {meth : Method} {c : Code} {dC : Nat → ClassId} {dI : Nat → Nat → Nat} {cA : Nat → ClassId} {A : Nat → Prop} {al : Nat → Nat} {sh : List Kd} (C : Fx p s m args c cX9_follows 4 yX9_follows.cls dC dI cA A al) (hr : meth.sig.returnType = some .boolean) (hlk : meth.locks = false) (hs : ShC sh) {a1 : Int32} {a2 : Int32} {Q : Int32 → St → Prop} {σ : St} (h : m_X9_follows_J45 a1 a2 Q σ) : WW p l e (RM 1) s m args below meth c (MQ below (va_Qi Q (WPost dC dI cA al sh A) A) args s 0 0 A) dC dI cA A 4 0 0 al sh 45 [(0, .ref 61), (1, .int a1), (2, .int a2)] [] σ := by
  unfold m_X9_follows_J45 at h
  refine ww_iconst (v := 0) C dX9_follows_45 (by decide) ?_
  exact w_X9_follows_J46 (Q := Q) (a1 := a1) (a2 := a2) C hr hlk hs h
set_option maxRecDepth 100000 in
set_option maxHeartbeats 4000000 in
theorem c_X9_follows {l : Launch} {dC : Nat → ClassId} {dI : Nat → Nat → Nat} {cA : Nat → ClassId} {al : Nat → Nat} {sh : List Kd} (hs : ShC sh) {σ : St} {a1 : Int32} {a2 : Int32} {Q : Int32 → St → Prop} (h : m_X9_follows σ a1 a2 Q) : ∀ sz, Met l yX9_follows (wd yX9_follows cX9_follows 4 (some .boolean)) (RM 1) (va_Pc ([.ref 61, .int a1, .int a2].map (cv al)) (WPre dC dI cA al sh σ sz)) (va_Qi Q (WPost dC dI cA al sh (AW al sh sz)) (AW al sh sz)) 0 0 (AW al sh sz) := by
  refine ww_met (Qc := fun A => va_Qi Q (WPost dC dI cA al sh A) A) (by decide +kernel) (Nat.le_of_ble_eq_true rfl) (fun p e s m args below meth c A C hr hlk => ?_)
  show WW p l e (RM 1) s m args below meth c (MQ below (va_Qi Q (WPost dC dI cA al sh A) A) args s 0 0 A) dC dI cA A 4 0 0 al sh 0 [(0, .ref 61), (1, .int a1), (2, .int a2)] [] σ
  unfold m_X9_follows at h
  refine ww_aload_n C 0 rfl dX9_follows_0 ?_
  refine ww_aload_n C 0 rfl dX9_follows_1 ?_
  refine ww_getI C (shc_61 hs) rfl inG9 24 (by decide) nq_621 rfl dX9_follows_2 ?_
  refine ww_aload_n C 0 rfl dX9_follows_5 ?_
  refine ww_getR C (shc_61 hs) rfl inG9 21 (by decide) nq_130 rfl dX9_follows_6 ?_
  refine ww_iload_n C 1 rfl dX9_follows_9 ?_
  refine ww_iald C (shc_71 hs) h.1 dX9_follows_10 ?_
  have h := h.2
  refine ww_vi (n := 2) (As := [.int (σ.1 61 24), .int (σ.1 71 a1.toNatClampNeg)]) (rest := []) C (c_X9_signAt hs h) (shc_61 hs) rfl nq_331 nq_332 nq_333 nq_5 nq_334 (by decide +kernel) rfl rfl ⟨Nat.le_of_ble_eq_true rfl, Nat.le_of_ble_eq_true rfl, Nat.le_of_ble_eq_true rfl, Nat.le_of_ble_eq_true rfl⟩ (Nat.le_of_ble_eq_true rfl) dX9_follows_11 (fun r11 σ11 h => ?_)
  refine ww_iconst (v := 1) C dX9_follows_14 (by decide) ?_
  refine ww_icmp_ne (tgt := 45) C dX9_follows_15 (by decide) (fun hc => ?_) (fun hc => ?_)
  · have h := h.1 hc
    exact w_X9_follows_J45 (Q := Q) (a1 := a1) (a2 := a2) C hr hlk hs h
  · have h := h.2 hc
    refine ww_aload_n C 0 rfl dX9_follows_18 ?_
    refine ww_getR C (shc_61 hs) rfl inG9 9 (by decide) nq_127 rfl dX9_follows_19 ?_
    refine ww_aload_n C 0 rfl dX9_follows_22 ?_
    refine ww_getR C (shc_61 hs) rfl inG9 21 (by decide) nq_130 rfl dX9_follows_23 ?_
    refine ww_iload_n C 2 rfl dX9_follows_26 ?_
    refine ww_iald C (shc_71 hs) h.1 dX9_follows_27 ?_
    have h := h.2
    refine ww_iald C (shc_68 hs) h.1 dX9_follows_28 ?_
    have h := h.2
    refine ww_aload_n C 0 rfl dX9_follows_29 ?_
    refine ww_getR C (shc_61 hs) rfl inG9 22 (by decide) nq_131 rfl dX9_follows_30 ?_
    refine ww_iload_n C 2 rfl dX9_follows_33 ?_
    refine ww_iald C (shc_72 hs) h.1 dX9_follows_34 ?_
    have h := h.2
    refine ww_si (n := 2) (As := [.int (σ11.1 68 (σ11.1 71 a2.toNatClampNeg).toNatClampNeg), .int (σ11.1 72 a2.toNatClampNeg)]) (rest := []) C (c_X9_has hs h) nq_244 nq_245 nq_5 nq_246 (by decide +kernel) rfl rfl ⟨Nat.le_of_ble_eq_true rfl, Nat.le_of_ble_eq_true rfl, Nat.le_of_ble_eq_true rfl, Nat.le_of_ble_eq_true rfl⟩ (Nat.le_of_ble_eq_true rfl) dX9_follows_35 (fun r35 σ35 h => ?_)
    refine ww_if_eq (tgt := 45) C dX9_follows_38 (by decide) (fun hc => ?_) (fun hc => ?_)
    · have h := h.1 hc
      exact w_X9_follows_J45 (Q := Q) (a1 := a1) (a2 := a2) C hr hlk hs h
    · have h := h.2 hc
      refine ww_iconst (v := 1) C dX9_follows_41 (by decide) ?_
      refine ww_goto (tgt := 46) C dX9_follows_42 (by decide) ?_
      exact w_X9_follows_J46 (Q := Q) (a1 := a1) (a2 := a2) C hr hlk hs h
set_option maxRecDepth 100000 in
set_option maxHeartbeats 4000000 in
theorem w_X9_isUnlike_L5b {p : Program} {l : Launch} {e : Env} {s : State} {m : MethodId} {args : Array Value} {below : List Frame} {meth : Method} {c : Code} {dC : Nat → ClassId} {dI : Nat → Nat → Nat} {cA : Nat → ClassId} {A : Nat → Prop} {al : Nat → Nat} {sh : List Kd} (C : Fx p s m args c cX9_isUnlike 5 yX9_isUnlike.cls dC dI cA A al) (hr : meth.sig.returnType = some .boolean) (hlk : meth.locks = false) (hs : ShC sh) {a1 : Int32} {a2 : Int32} {Q : Int32 → St → Prop} {K85 : St → Int32 → Prop} (hK85 : ∀ (σ : St) (x3 : Int32), K85 σ x3 → WW p l e (RM 1) s m args below meth c (MQ below (va_Qi Q (WPost dC dI cA al sh A) A) args s 0 0 A) dC dI cA A 5 0 0 al sh 85 [(3, .int x3)] [] σ) {Rc : St → Int32 → Int32 → Prop} (hRc : ∀ (σ : St) (x3 : Int32) (x4 : Int32), Rc σ x3 x4 → WW p l e (RM 1) s m args below meth c (MQ below (va_Qi Q (WPost dC dI cA al sh A) A) args s 0 0 A) dC dI cA A 5 0 0 al sh 5 [(0, .ref 61), (1, .int a1), (2, .int a2), (3, .int x3), (4, .int x4)] [] σ) {σ : St} {x3 : Int32} {x4 : Int32} (h : m_X9_isUnlike_L5b a1 a2 Q K85 Rc σ x3 x4) : WW p l e (RM 1) s m args below meth c (MQ below (va_Qi Q (WPost dC dI cA al sh A) A) args s 0 0 A) dC dI cA A 5 0 0 al sh 5 [(0, .ref 61), (1, .int a1), (2, .int a2), (3, .int x3), (4, .int x4)] [] σ := by
  unfold m_X9_isUnlike_L5b at h
  refine ww_iload C 4 rfl dX9_isUnlike_5 ?_
  refine ww_iload_n C 1 rfl dX9_isUnlike_7 ?_
  refine ww_icmp_ge (tgt := 85) C dX9_isUnlike_8 (by decide) (fun hc => ?_) (fun hc => ?_)
  · have h := h.1 hc
    refine ww_sub [3] rfl ?_
    exact hK85 _ _ h
  · have h := h.2 hc
    refine ww_iload_n C 3 rfl dX9_isUnlike_11 ?_
    refine ww_if_eq (tgt := 77) C dX9_isUnlike_12 (by decide) (fun hc => ?_) (fun hc => ?_)
    · have h := h.1 hc
      refine ww_iconst (v := 0) C dX9_isUnlike_77 (by decide) ?_
      refine ww_istore_n (lv' := [(3, .int 0), (0, .ref 61), (1, .int a1), (2, .int a2), (4, .int x4)]) C dX9_isUnlike_78 rfl (by decide) rfl ?_
      refine ww_iinc (v := (x4 + 1)) (lv' := [(4, .int (x4 + 1)), (3, .int 0), (0, .ref 61), (1, .int a1), (2, .int a2)]) C 4 rfl dX9_isUnlike_79 rfl (by decide) rfl ?_
      refine ww_goto (tgt := 5) C dX9_isUnlike_82 (by decide) ?_
      refine ww_sub [2, 3, 4, 1, 0] rfl ?_
      exact hRc _ _ _ h
    · have h := h.2 hc
      refine ww_aload_n C 0 rfl dX9_isUnlike_15 ?_
      refine ww_getR C (shc_61 hs) rfl inG9 23 (by decide) nq_132 rfl dX9_isUnlike_16 ?_
      refine ww_aload_n C 0 rfl dX9_isUnlike_19 ?_
      refine ww_getR C (shc_61 hs) rfl inG9 25 (by decide) nq_133 rfl dX9_isUnlike_20 ?_
      refine ww_iload C 4 rfl dX9_isUnlike_23 ?_
      refine ww_iald C (shc_74 hs) h.1 dX9_isUnlike_25 ?_
      have h := h.2
      refine ww_iald C (shc_73 hs) h.1 dX9_isUnlike_26 ?_
      have h := h.2
      refine ww_aload_n C 0 rfl dX9_isUnlike_27 ?_
      refine ww_getR C (shc_61 hs) rfl inG9 23 (by decide) nq_132 rfl dX9_isUnlike_28 ?_
      refine ww_iload_n C 2 rfl dX9_isUnlike_31 ?_
      refine ww_iald C (shc_73 hs) h.1 dX9_isUnlike_32 ?_
      have h := h.2
      refine ww_icmp_eq (tgt := 77) C dX9_isUnlike_33 (by decide) (fun hc => ?_) (fun hc => ?_)
      · have h := h.1 hc
        refine ww_iconst (v := 0) C dX9_isUnlike_77 (by decide) ?_
        refine ww_istore_n (lv' := [(3, .int 0), (0, .ref 61), (1, .int a1), (2, .int a2), (4, .int x4)]) C dX9_isUnlike_78 rfl (by decide) rfl ?_
        refine ww_iinc (v := (x4 + 1)) (lv' := [(4, .int (x4 + 1)), (3, .int 0), (0, .ref 61), (1, .int a1), (2, .int a2)]) C 4 rfl dX9_isUnlike_79 rfl (by decide) rfl ?_
        refine ww_goto (tgt := 5) C dX9_isUnlike_82 (by decide) ?_
        refine ww_sub [2, 3, 4, 1, 0] rfl ?_
        exact hRc _ _ _ h
      · have h := h.2 hc
        refine ww_aload_n C 0 rfl dX9_isUnlike_36 ?_
        refine ww_aload_n C 0 rfl dX9_isUnlike_37 ?_
        refine ww_getI C (shc_61 hs) rfl inG9 24 (by decide) nq_621 rfl dX9_isUnlike_38 ?_
        refine ww_aload_n C 0 rfl dX9_isUnlike_41 ?_
        refine ww_getR C (shc_61 hs) rfl inG9 21 (by decide) nq_130 rfl dX9_isUnlike_42 ?_
        refine ww_aload_n C 0 rfl dX9_isUnlike_45 ?_
        refine ww_getR C (shc_61 hs) rfl inG9 25 (by decide) nq_133 rfl dX9_isUnlike_46 ?_
        refine ww_iload C 4 rfl dX9_isUnlike_49 ?_
        refine ww_iald C (shc_74 hs) h.1 dX9_isUnlike_51 ?_
        have h := h.2
        refine ww_iald C (shc_71 hs) h.1 dX9_isUnlike_52 ?_
        have h := h.2
        refine ww_vi (n := 2) (As := [.int (σ.1 61 24), .int (σ.1 71 (σ.1 74 x4.toNatClampNeg).toNatClampNeg)]) (rest := []) C (c_X9_threadAt hs h) (shc_61 hs) rfl nq_327 nq_328 nq_329 nq_5 nq_330 (by decide +kernel) rfl rfl ⟨Nat.le_of_ble_eq_true rfl, Nat.le_of_ble_eq_true rfl, Nat.le_of_ble_eq_true rfl, Nat.le_of_ble_eq_true rfl⟩ (Nat.le_of_ble_eq_true rfl) dX9_isUnlike_53 (fun r53 σ53 h => ?_)
        refine ww_aload_n C 0 rfl dX9_isUnlike_56 ?_
        refine ww_aload_n C 0 rfl dX9_isUnlike_57 ?_
        refine ww_getI C (shc_61 hs) rfl inG9 24 (by decide) nq_621 rfl dX9_isUnlike_58 ?_
        refine ww_aload_n C 0 rfl dX9_isUnlike_61 ?_
        refine ww_getR C (shc_61 hs) rfl inG9 21 (by decide) nq_130 rfl dX9_isUnlike_62 ?_
        refine ww_iload_n C 2 rfl dX9_isUnlike_65 ?_
        refine ww_iald C (shc_71 hs) h.1 dX9_isUnlike_66 ?_
        have h := h.2
        refine ww_vi (n := 2) (As := [.int (σ53.1 61 24), .int (σ53.1 71 a2.toNatClampNeg)]) (rest := [.int r53]) C (c_X9_threadAt hs h) (shc_61 hs) rfl nq_327 nq_328 nq_329 nq_5 nq_330 (by decide +kernel) rfl rfl ⟨Nat.le_of_ble_eq_true rfl, Nat.le_of_ble_eq_true rfl, Nat.le_of_ble_eq_true rfl, Nat.le_of_ble_eq_true rfl⟩ (Nat.le_of_ble_eq_true rfl) dX9_isUnlike_67 (fun r67 σ67 h => ?_)
        refine ww_icmp_eq (tgt := 77) C dX9_isUnlike_70 (by decide) (fun hc => ?_) (fun hc => ?_)
        · have h := h.1 hc
          refine ww_iconst (v := 0) C dX9_isUnlike_77 (by decide) ?_
          refine ww_istore_n (lv' := [(3, .int 0), (0, .ref 61), (1, .int a1), (2, .int a2), (4, .int x4)]) C dX9_isUnlike_78 rfl (by decide) rfl ?_
          refine ww_iinc (v := (x4 + 1)) (lv' := [(4, .int (x4 + 1)), (3, .int 0), (0, .ref 61), (1, .int a1), (2, .int a2)]) C 4 rfl dX9_isUnlike_79 rfl (by decide) rfl ?_
          refine ww_goto (tgt := 5) C dX9_isUnlike_82 (by decide) ?_
          refine ww_sub [2, 3, 4, 1, 0] rfl ?_
          exact hRc _ _ _ h
        · have h := h.2 hc
          refine ww_iconst (v := 1) C dX9_isUnlike_73 (by decide) ?_
          refine ww_goto (tgt := 78) C dX9_isUnlike_74 (by decide) ?_
          refine ww_istore_n (lv' := [(3, .int 1), (0, .ref 61), (1, .int a1), (2, .int a2), (4, .int x4)]) C dX9_isUnlike_78 rfl (by decide) rfl ?_
          refine ww_iinc (v := (x4 + 1)) (lv' := [(4, .int (x4 + 1)), (3, .int 1), (0, .ref 61), (1, .int a1), (2, .int a2)]) C 4 rfl dX9_isUnlike_79 rfl (by decide) rfl ?_
          refine ww_goto (tgt := 5) C dX9_isUnlike_82 (by decide) ?_
          refine ww_sub [2, 3, 4, 1, 0] rfl ?_
          exact hRc _ _ _ h
set_option maxRecDepth 100000 in
set_option maxHeartbeats 4000000 in
theorem w_X9_isUnlike_L5 {p : Program} {l : Launch} {e : Env} {s : State} {m : MethodId} {args : Array Value} {below : List Frame} {meth : Method} {c : Code} {dC : Nat → ClassId} {dI : Nat → Nat → Nat} {cA : Nat → ClassId} {A : Nat → Prop} {al : Nat → Nat} {sh : List Kd} (C : Fx p s m args c cX9_isUnlike 5 yX9_isUnlike.cls dC dI cA A al) (hr : meth.sig.returnType = some .boolean) (hlk : meth.locks = false) (hs : ShC sh) {a1 : Int32} {a2 : Int32} {Q : Int32 → St → Prop} {K85 : St → Int32 → Prop} (hK85 : ∀ (σ : St) (x3 : Int32), K85 σ x3 → WW p l e (RM 1) s m args below meth c (MQ below (va_Qi Q (WPost dC dI cA al sh A) A) args s 0 0 A) dC dI cA A 5 0 0 al sh 85 [(3, .int x3)] [] σ) : ∀ (f : Nat) (σ : St) (x3 : Int32) (x4 : Int32), m_X9_isUnlike_L5 a1 a2 Q K85 f σ x3 x4 → WW p l e (RM 1) s m args below meth c (MQ below (va_Qi Q (WPost dC dI cA al sh A) A) args s 0 0 A) dC dI cA A 5 0 0 al sh 5 [(0, .ref 61), (1, .int a1), (2, .int a2), (3, .int x3), (4, .int x4)] [] σ := by
  intro f
  induction f with
  | zero => intro σ x3 x4 h; exact False.elim h
  | succ f ih => intro σ x3 x4 h; exact w_X9_isUnlike_L5b (Q := Q) (a1 := a1) (a2 := a2) C hr hlk hs hK85 ih h
set_option maxRecDepth 100000 in
set_option maxHeartbeats 4000000 in
theorem w_X9_isUnlike_J85 {p : Program} {l : Launch} {e : Env} {s : State} {m : MethodId} {args : Array Value} {below : List Frame} {meth : Method} {c : Code} {dC : Nat → ClassId} {dI : Nat → Nat → Nat} {cA : Nat → ClassId} {A : Nat → Prop} {al : Nat → Nat} {sh : List Kd} (C : Fx p s m args c cX9_isUnlike 5 yX9_isUnlike.cls dC dI cA A al) (hr : meth.sig.returnType = some .boolean) (hlk : meth.locks = false) (hs : ShC sh) {a1 : Int32} {a2 : Int32} {Q : Int32 → St → Prop} {σ : St} {x3 : Int32} (h : m_X9_isUnlike_J85 a1 a2 Q σ x3) : WW p l e (RM 1) s m args below meth c (MQ below (va_Qi Q (WPost dC dI cA al sh A) A) args s 0 0 A) dC dI cA A 5 0 0 al sh 85 [(3, .int x3)] [] σ := by
  unfold m_X9_isUnlike_J85 at h
  refine ww_iload_n C 0 rfl dX9_isUnlike_85 ?_
  exact ww_zret C hr hlk h.1 h.2 dX9_isUnlike_86
set_option maxRecDepth 100000 in
set_option maxHeartbeats 4000000 in
theorem c_X9_isUnlike {l : Launch} {dC : Nat → ClassId} {dI : Nat → Nat → Nat} {cA : Nat → ClassId} {al : Nat → Nat} {sh : List Kd} (hs : ShC sh) {σ : St} {a1 : Int32} {a2 : Int32} {Q : Int32 → St → Prop} (h : m_X9_isUnlike σ a1 a2 Q) : ∀ sz, Met l yX9_isUnlike (wd yX9_isUnlike cX9_isUnlike 5 (some .boolean)) (RM 1) (va_Pc ([.ref 61, .int a1, .int a2].map (cv al)) (WPre dC dI cA al sh σ sz)) (va_Qi Q (WPost dC dI cA al sh (AW al sh sz)) (AW al sh sz)) 0 0 (AW al sh sz) := by
  refine ww_met (Qc := fun A => va_Qi Q (WPost dC dI cA al sh A) A) (by decide +kernel) (Nat.le_of_ble_eq_true rfl) (fun p e s m args below meth c A C hr hlk => ?_)
  show WW p l e (RM 1) s m args below meth c (MQ below (va_Qi Q (WPost dC dI cA al sh A) A) args s 0 0 A) dC dI cA A 5 0 0 al sh 0 [(0, .ref 61), (1, .int a1), (2, .int a2)] [] σ
  unfold m_X9_isUnlike at h
  refine ww_iconst (v := 1) C dX9_isUnlike_0 (by decide) ?_
  refine ww_istore_n (lv' := [(3, .int 1), (0, .ref 61), (1, .int a1), (2, .int a2)]) C dX9_isUnlike_1 rfl (by decide) rfl ?_
  refine ww_iconst (v := 0) C dX9_isUnlike_2 (by decide) ?_
  refine ww_istore (lv' := [(4, .int 0), (3, .int 1), (0, .ref 61), (1, .int a1), (2, .int a2)]) C dX9_isUnlike_3 (by decide) rfl ?_
  refine ww_sub [2, 3, 4, 1, 0] rfl ?_
  obtain ⟨f, h⟩ := h
  exact w_X9_isUnlike_L5 (Q := Q) (a1 := a1) (a2 := a2) C hr hlk hs (fun σ x3 h => by exact w_X9_isUnlike_J85 (Q := Q) (a1 := a1) (a2 := a2) C hr hlk hs h) f _ _ _ h
set_option maxRecDepth 100000 in
set_option maxHeartbeats 4000000 in
theorem c_X9_areGated {l : Launch} {dC : Nat → ClassId} {dI : Nat → Nat → Nat} {cA : Nat → ClassId} {al : Nat → Nat} {sh : List Kd} (hs : ShC sh) {σ : St} {a1 : Int32} {a2 : Int32} {Q : Int32 → St → Prop} (h : m_X9_areGated σ a1 a2 Q) : ∀ sz, Met l yX9_areGated (wd yX9_areGated cX9_areGated 4 (some .boolean)) (RM 0) (va_Pc ([.ref 61, .int a1, .int a2].map (cv al)) (WPre dC dI cA al sh σ sz)) (va_Qi Q (WPost dC dI cA al sh (AW al sh sz)) (AW al sh sz)) 0 0 (AW al sh sz) := by
  refine ww_met (Qc := fun A => va_Qi Q (WPost dC dI cA al sh A) A) (by decide +kernel) (Nat.le_of_ble_eq_true rfl) (fun p e s m args below meth c A C hr hlk => ?_)
  show WW p l e (RM 0) s m args below meth c (MQ below (va_Qi Q (WPost dC dI cA al sh A) A) args s 0 0 A) dC dI cA A 4 0 0 al sh 0 [(0, .ref 61), (1, .int a1), (2, .int a2)] [] σ
  unfold m_X9_areGated at h
  refine ww_aload_n C 0 rfl dX9_areGated_0 ?_
  refine ww_getR C (shc_61 hs) rfl inG9 8 (by decide) nq_126 rfl dX9_areGated_1 ?_
  refine ww_iload_n C 1 rfl dX9_areGated_4 ?_
  refine ww_iald C (shc_67 hs) h.1 dX9_areGated_5 ?_
  have h := h.2
  refine ww_aload_n C 0 rfl dX9_areGated_6 ?_
  refine ww_getR C (shc_61 hs) rfl inG9 9 (by decide) nq_127 rfl dX9_areGated_7 ?_
  refine ww_iload_n C 1 rfl dX9_areGated_10 ?_
  refine ww_iald C (shc_68 hs) h.1 dX9_areGated_11 ?_
  have h := h.2
  refine ww_ior C dX9_areGated_12 ?_
  refine ww_aload_n C 0 rfl dX9_areGated_13 ?_
  refine ww_getR C (shc_61 hs) rfl inG9 8 (by decide) nq_126 rfl dX9_areGated_14 ?_
  refine ww_iload_n C 2 rfl dX9_areGated_17 ?_
  refine ww_iald C (shc_67 hs) h.1 dX9_areGated_18 ?_
  have h := h.2
  refine ww_aload_n C 0 rfl dX9_areGated_19 ?_
  refine ww_getR C (shc_61 hs) rfl inG9 9 (by decide) nq_127 rfl dX9_areGated_20 ?_
  refine ww_iload_n C 2 rfl dX9_areGated_23 ?_
  refine ww_iald C (shc_68 hs) h.1 dX9_areGated_24 ?_
  have h := h.2
  refine ww_ior C dX9_areGated_25 ?_
  refine ww_iand C dX9_areGated_26 ?_
  refine ww_nmI h (fun y27 h => ?_)
  refine ww_istore_n (lv' := [(3, .int y27), (0, .ref 61), (1, .int a1), (2, .int a2)]) C dX9_areGated_27 rfl (by decide) rfl ?_
  refine ww_iload_n C 0 rfl dX9_areGated_28 ?_
  refine ww_aload_n C 1 rfl dX9_areGated_29 ?_
  refine ww_getR C (shc_61 hs) rfl inG9 8 (by decide) nq_126 rfl dX9_areGated_30 ?_
  refine ww_iload_n C 2 rfl dX9_areGated_33 ?_
  refine ww_iald C (shc_67 hs) h.1 dX9_areGated_34 ?_
  have h := h.2
  refine ww_aload_n C 1 rfl dX9_areGated_35 ?_
  refine ww_getR C (shc_61 hs) rfl inG9 8 (by decide) nq_126 rfl dX9_areGated_36 ?_
  refine ww_iload_n C 3 rfl dX9_areGated_39 ?_
  refine ww_iald C (shc_67 hs) h.1 dX9_areGated_40 ?_
  have h := h.2
  refine ww_ior C dX9_areGated_41 ?_
  refine ww_iand C dX9_areGated_42 ?_
  refine ww_if_eq (tgt := 50) C dX9_areGated_43 (by decide) (fun hc => ?_) (fun hc => ?_)
  · have h := h.1 hc
    refine ww_iconst (v := 0) C dX9_areGated_50 (by decide) ?_
    exact ww_zret C hr hlk (by decide) h dX9_areGated_51
  · have h := h.2 hc
    refine ww_iconst (v := 1) C dX9_areGated_46 (by decide) ?_
    refine ww_goto (tgt := 51) C dX9_areGated_47 (by decide) ?_
    exact ww_zret C hr hlk (by decide) h dX9_areGated_51
set_option maxRecDepth 100000 in
set_option maxHeartbeats 4000000 in
theorem w_X9_takeRing_J108 {p : Program} {l : Launch} {e : Env} {s : State} {m : MethodId} {args : Array Value} {below : List Frame} {meth : Method} {c : Code} {dC : Nat → ClassId} {dI : Nat → Nat → Nat} {cA : Nat → ClassId} {A : Nat → Prop} {al : Nat → Nat} {sh : List Kd} (C : Fx p s m args c cX9_takeRing 8 yX9_takeRing.cls dC dI cA A al) (hr : meth.sig.returnType = none) (hlk : meth.locks = false) (hs : ShC sh) {a1 : Int32} {Q : St → Prop} {x4 : Int32} {x5 : Int32} {K160 : St → Int32 → Int32 → Prop} (hK160 : ∀ (σ : St) (x2 : Int32) (x3 : Int32), K160 σ x2 x3 → WW p l e (RM 1) s m args below meth c (MQ below (va_Qv Q (WPost dC dI cA al sh A) A) args s 0 0 A) dC dI cA A 8 0 0 al sh 160 [(0, .ref 61), (1, .int a1), (2, .int x2), (3, .int x3), (4, .int x4), (5, .int x5)] [] σ) {Rc : St → Int32 → Int32 → Int32 → Prop} (hRc : ∀ (σ : St) (x2 : Int32) (x3 : Int32) (x6 : Int32), Rc σ x2 x3 x6 → WW p l e (RM 1) s m args below meth c (MQ below (va_Qv Q (WPost dC dI cA al sh A) A) args s 0 0 A) dC dI cA A 8 0 0 al sh 55 [(0, .ref 61), (1, .int a1), (2, .int x2), (3, .int x3), (4, .int x4), (5, .int x5), (6, .int x6)] [] σ) {σ : St} {x3 : Int32} {x6 : Int32} {t0 : Int32} (h : m_X9_takeRing_J108 a1 Q x4 x5 K160 Rc σ x3 x6 t0) : WW p l e (RM 1) s m args below meth c (MQ below (va_Qv Q (WPost dC dI cA al sh A) A) args s 0 0 A) dC dI cA A 8 0 0 al sh 108 [(0, .ref 61), (1, .int a1), (3, .int x3), (4, .int x4), (5, .int x5), (6, .int x6)] [.int t0] σ := by
  unfold m_X9_takeRing_J108 at h
  refine ww_istore_n (lv' := [(2, .int t0), (0, .ref 61), (1, .int a1), (3, .int x3), (4, .int x4), (5, .int x5), (6, .int x6)]) C dX9_takeRing_108 rfl (by decide) rfl ?_
  refine ww_iload_n C 3 rfl dX9_takeRing_109 ?_
  refine ww_if_ne (tgt := 148) C dX9_takeRing_110 (by decide) (fun hc => ?_) (fun hc => ?_)
  · have h := h.1 hc
    refine ww_iconst (v := 1) C dX9_takeRing_148 (by decide) ?_
    refine ww_goto (tgt := 153) C dX9_takeRing_149 (by decide) ?_
    refine ww_istore_n (lv' := [(3, .int 1), (2, .int t0), (0, .ref 61), (1, .int a1), (4, .int x4), (5, .int x5), (6, .int x6)]) C dX9_takeRing_153 rfl (by decide) rfl ?_
    refine ww_iinc (v := (x6 + 1)) (lv' := [(6, .int (x6 + 1)), (3, .int 1), (2, .int t0), (0, .ref 61), (1, .int a1), (4, .int x4), (5, .int x5)]) C 6 rfl dX9_takeRing_154 rfl (by decide) rfl ?_
    refine ww_goto (tgt := 55) C dX9_takeRing_157 (by decide) ?_
    refine ww_sub [3, 4, 2, 1, 5, 6, 0] rfl ?_
    exact hRc _ _ _ _ h
  · have h := h.2 hc
    refine ww_aload_n C 1 rfl dX9_takeRing_113 ?_
    refine ww_getR C (shc_61 hs) rfl inG9 18 (by decide) nq_129 rfl dX9_takeRing_114 ?_
    refine ww_aload_n C 1 rfl dX9_takeRing_117 ?_
    refine ww_getR C (shc_61 hs) rfl inG9 21 (by decide) nq_130 rfl dX9_takeRing_118 ?_
    refine ww_aload_n C 1 rfl dX9_takeRing_121 ?_
    refine ww_getR C (shc_61 hs) rfl inG9 25 (by decide) nq_133 rfl dX9_takeRing_122 ?_
    refine ww_iload C 5 rfl dX9_takeRing_125 ?_
    refine ww_iald C (shc_74 hs) h.1 dX9_takeRing_127 ?_
    have h := h.2
    refine ww_iald C (shc_71 hs) h.1 dX9_takeRing_128 ?_
    have h := h.2
    refine ww_iald C (shc_70 hs) h.1 dX9_takeRing_129 ?_
    have h := h.2
    refine ww_aload_n C 1 rfl dX9_takeRing_130 ?_
    refine ww_getR C (shc_61 hs) rfl inG9 21 (by decide) nq_130 rfl dX9_takeRing_131 ?_
    refine ww_aload_n C 1 rfl dX9_takeRing_134 ?_
    refine ww_getR C (shc_61 hs) rfl inG9 25 (by decide) nq_133 rfl dX9_takeRing_135 ?_
    refine ww_iload C 6 rfl dX9_takeRing_138 ?_
    refine ww_iald C (shc_74 hs) h.1 dX9_takeRing_140 ?_
    have h := h.2
    refine ww_iald C (shc_71 hs) h.1 dX9_takeRing_141 ?_
    have h := h.2
    refine ww_si (n := 2) (As := [.int (σ.1 70 (σ.1 71 (σ.1 74 x5.toNatClampNeg).toNatClampNeg).toNatClampNeg), .int (σ.1 71 (σ.1 74 x6.toNatClampNeg).toNatClampNeg)]) (rest := []) C (c_X9_has hs h) nq_244 nq_245 nq_5 nq_246 (by decide +kernel) rfl rfl ⟨Nat.le_of_ble_eq_true rfl, Nat.le_of_ble_eq_true rfl, Nat.le_of_ble_eq_true rfl, Nat.le_of_ble_eq_true rfl⟩ (Nat.le_of_ble_eq_true rfl) dX9_takeRing_142 (fun r142 σ142 h => ?_)
    refine ww_if_eq (tgt := 152) C dX9_takeRing_145 (by decide) (fun hc => ?_) (fun hc => ?_)
    · have h := h.1 hc
      refine ww_iconst (v := 0) C dX9_takeRing_152 (by decide) ?_
      refine ww_istore_n (lv' := [(3, .int 0), (2, .int t0), (0, .ref 61), (1, .int a1), (4, .int x4), (5, .int x5), (6, .int x6)]) C dX9_takeRing_153 rfl (by decide) rfl ?_
      refine ww_iinc (v := (x6 + 1)) (lv' := [(6, .int (x6 + 1)), (3, .int 0), (2, .int t0), (0, .ref 61), (1, .int a1), (4, .int x4), (5, .int x5)]) C 6 rfl dX9_takeRing_154 rfl (by decide) rfl ?_
      refine ww_goto (tgt := 55) C dX9_takeRing_157 (by decide) ?_
      refine ww_sub [3, 4, 2, 1, 5, 6, 0] rfl ?_
      exact hRc _ _ _ _ h
    · have h := h.2 hc
      refine ww_iconst (v := 1) C dX9_takeRing_148 (by decide) ?_
      refine ww_goto (tgt := 153) C dX9_takeRing_149 (by decide) ?_
      refine ww_istore_n (lv' := [(3, .int 1), (2, .int t0), (0, .ref 61), (1, .int a1), (4, .int x4), (5, .int x5), (6, .int x6)]) C dX9_takeRing_153 rfl (by decide) rfl ?_
      refine ww_iinc (v := (x6 + 1)) (lv' := [(6, .int (x6 + 1)), (3, .int 1), (2, .int t0), (0, .ref 61), (1, .int a1), (4, .int x4), (5, .int x5)]) C 6 rfl dX9_takeRing_154 rfl (by decide) rfl ?_
      refine ww_goto (tgt := 55) C dX9_takeRing_157 (by decide) ?_
      refine ww_sub [3, 4, 2, 1, 5, 6, 0] rfl ?_
      exact hRc _ _ _ _ h
set_option maxRecDepth 100000 in
set_option maxHeartbeats 4000000 in
theorem w_X9_takeRing_J103 {p : Program} {l : Launch} {e : Env} {s : State} {m : MethodId} {args : Array Value} {below : List Frame} {meth : Method} {c : Code} {dC : Nat → ClassId} {dI : Nat → Nat → Nat} {cA : Nat → ClassId} {A : Nat → Prop} {al : Nat → Nat} {sh : List Kd} (C : Fx p s m args c cX9_takeRing 8 yX9_takeRing.cls dC dI cA A al) (hr : meth.sig.returnType = none) (hlk : meth.locks = false) (hs : ShC sh) {a1 : Int32} {Q : St → Prop} {x4 : Int32} {x5 : Int32} {K160 : St → Int32 → Int32 → Prop} (hK160 : ∀ (σ : St) (x2 : Int32) (x3 : Int32), K160 σ x2 x3 → WW p l e (RM 1) s m args below meth c (MQ below (va_Qv Q (WPost dC dI cA al sh A) A) args s 0 0 A) dC dI cA A 8 0 0 al sh 160 [(0, .ref 61), (1, .int a1), (2, .int x2), (3, .int x3), (4, .int x4), (5, .int x5)] [] σ) {Rc : St → Int32 → Int32 → Int32 → Prop} (hRc : ∀ (σ : St) (x2 : Int32) (x3 : Int32) (x6 : Int32), Rc σ x2 x3 x6 → WW p l e (RM 1) s m args below meth c (MQ below (va_Qv Q (WPost dC dI cA al sh A) A) args s 0 0 A) dC dI cA A 8 0 0 al sh 55 [(0, .ref 61), (1, .int a1), (2, .int x2), (3, .int x3), (4, .int x4), (5, .int x5), (6, .int x6)] [] σ) {σ : St} {x3 : Int32} {x6 : Int32} (h : m_X9_takeRing_J103 a1 Q x4 x5 K160 Rc σ x3 x6) : WW p l e (RM 1) s m args below meth c (MQ below (va_Qv Q (WPost dC dI cA al sh A) A) args s 0 0 A) dC dI cA A 8 0 0 al sh 103 [(0, .ref 61), (1, .int a1), (3, .int x3), (4, .int x4), (5, .int x5), (6, .int x6)] [] σ := by
  unfold m_X9_takeRing_J103 at h
  refine ww_iconst (v := 1) C dX9_takeRing_103 (by decide) ?_
  refine ww_goto (tgt := 108) C dX9_takeRing_104 (by decide) ?_
  exact w_X9_takeRing_J108 (Q := Q) (a1 := a1) C hr hlk hs hK160 hRc h
set_option maxRecDepth 100000 in
set_option maxHeartbeats 4000000 in
theorem w_X9_takeRing_J107 {p : Program} {l : Launch} {e : Env} {s : State} {m : MethodId} {args : Array Value} {below : List Frame} {meth : Method} {c : Code} {dC : Nat → ClassId} {dI : Nat → Nat → Nat} {cA : Nat → ClassId} {A : Nat → Prop} {al : Nat → Nat} {sh : List Kd} (C : Fx p s m args c cX9_takeRing 8 yX9_takeRing.cls dC dI cA A al) (hr : meth.sig.returnType = none) (hlk : meth.locks = false) (hs : ShC sh) {a1 : Int32} {Q : St → Prop} {x4 : Int32} {x5 : Int32} {K160 : St → Int32 → Int32 → Prop} (hK160 : ∀ (σ : St) (x2 : Int32) (x3 : Int32), K160 σ x2 x3 → WW p l e (RM 1) s m args below meth c (MQ below (va_Qv Q (WPost dC dI cA al sh A) A) args s 0 0 A) dC dI cA A 8 0 0 al sh 160 [(0, .ref 61), (1, .int a1), (2, .int x2), (3, .int x3), (4, .int x4), (5, .int x5)] [] σ) {Rc : St → Int32 → Int32 → Int32 → Prop} (hRc : ∀ (σ : St) (x2 : Int32) (x3 : Int32) (x6 : Int32), Rc σ x2 x3 x6 → WW p l e (RM 1) s m args below meth c (MQ below (va_Qv Q (WPost dC dI cA al sh A) A) args s 0 0 A) dC dI cA A 8 0 0 al sh 55 [(0, .ref 61), (1, .int a1), (2, .int x2), (3, .int x3), (4, .int x4), (5, .int x5), (6, .int x6)] [] σ) {σ : St} {x3 : Int32} {x6 : Int32} (h : m_X9_takeRing_J107 a1 Q x4 x5 K160 Rc σ x3 x6) : WW p l e (RM 1) s m args below meth c (MQ below (va_Qv Q (WPost dC dI cA al sh A) A) args s 0 0 A) dC dI cA A 8 0 0 al sh 107 [(0, .ref 61), (1, .int a1), (3, .int x3), (4, .int x4), (5, .int x5), (6, .int x6)] [] σ := by
  unfold m_X9_takeRing_J107 at h
  refine ww_iconst (v := 0) C dX9_takeRing_107 (by decide) ?_
  exact w_X9_takeRing_J108 (Q := Q) (a1 := a1) C hr hlk hs hK160 hRc h
set_option maxRecDepth 100000 in
set_option maxHeartbeats 4000000 in
theorem w_X9_takeRing_L55b {p : Program} {l : Launch} {e : Env} {s : State} {m : MethodId} {args : Array Value} {below : List Frame} {meth : Method} {c : Code} {dC : Nat → ClassId} {dI : Nat → Nat → Nat} {cA : Nat → ClassId} {A : Nat → Prop} {al : Nat → Nat} {sh : List Kd} (C : Fx p s m args c cX9_takeRing 8 yX9_takeRing.cls dC dI cA A al) (hr : meth.sig.returnType = none) (hlk : meth.locks = false) (hs : ShC sh) {a1 : Int32} {Q : St → Prop} {x4 : Int32} {x5 : Int32} {K160 : St → Int32 → Int32 → Prop} (hK160 : ∀ (σ : St) (x2 : Int32) (x3 : Int32), K160 σ x2 x3 → WW p l e (RM 1) s m args below meth c (MQ below (va_Qv Q (WPost dC dI cA al sh A) A) args s 0 0 A) dC dI cA A 8 0 0 al sh 160 [(0, .ref 61), (1, .int a1), (2, .int x2), (3, .int x3), (4, .int x4), (5, .int x5)] [] σ) {Rc : St → Int32 → Int32 → Int32 → Prop} (hRc : ∀ (σ : St) (x2 : Int32) (x3 : Int32) (x6 : Int32), Rc σ x2 x3 x6 → WW p l e (RM 1) s m args below meth c (MQ below (va_Qv Q (WPost dC dI cA al sh A) A) args s 0 0 A) dC dI cA A 8 0 0 al sh 55 [(0, .ref 61), (1, .int a1), (2, .int x2), (3, .int x3), (4, .int x4), (5, .int x5), (6, .int x6)] [] σ) {σ : St} {x2 : Int32} {x3 : Int32} {x6 : Int32} (h : m_X9_takeRing_L55b a1 Q x4 x5 K160 Rc σ x2 x3 x6) : WW p l e (RM 1) s m args below meth c (MQ below (va_Qv Q (WPost dC dI cA al sh A) A) args s 0 0 A) dC dI cA A 8 0 0 al sh 55 [(0, .ref 61), (1, .int a1), (2, .int x2), (3, .int x3), (4, .int x4), (5, .int x5), (6, .int x6)] [] σ := by
  unfold m_X9_takeRing_L55b at h
  refine ww_iload C 6 rfl dX9_takeRing_55 ?_
  refine ww_iload_n C 1 rfl dX9_takeRing_57 ?_
  refine ww_icmp_ge (tgt := 160) C dX9_takeRing_58 (by decide) (fun hc => ?_) (fun hc => ?_)
  · have h := h.1 hc
    refine ww_sub [0, 1, 2, 3, 4, 5] rfl ?_
    exact hK160 _ _ _ h
  · have h := h.2 hc
    refine ww_iload_n C 2 rfl dX9_takeRing_61 ?_
    refine ww_if_ne (tgt := 103) C dX9_takeRing_62 (by decide) (fun hc => ?_) (fun hc => ?_)
    · have h := h.1 hc
      refine ww_sub [0, 1, 3, 4, 5, 6] rfl ?_
      exact w_X9_takeRing_J103 (Q := Q) (a1 := a1) C hr hlk hs hK160 hRc h
    · have h := h.2 hc
      refine ww_iload C 5 rfl dX9_takeRing_65 ?_
      refine ww_iload C 6 rfl dX9_takeRing_67 ?_
      refine ww_icmp_eq (tgt := 107) C dX9_takeRing_69 (by decide) (fun hc => ?_) (fun hc => ?_)
      · have h := h.1 hc
        refine ww_sub [0, 1, 3, 4, 5, 6] rfl ?_
        exact w_X9_takeRing_J107 (Q := Q) (a1 := a1) C hr hlk hs hK160 hRc h
      · have h := h.2 hc
        refine ww_aload_n C 0 rfl dX9_takeRing_72 ?_
        refine ww_aload_n C 0 rfl dX9_takeRing_73 ?_
        refine ww_getR C (shc_61 hs) rfl inG9 21 (by decide) nq_130 rfl dX9_takeRing_74 ?_
        refine ww_aload_n C 0 rfl dX9_takeRing_77 ?_
        refine ww_getR C (shc_61 hs) rfl inG9 25 (by decide) nq_133 rfl dX9_takeRing_78 ?_
        refine ww_iload C 5 rfl dX9_takeRing_81 ?_
        refine ww_iald C (shc_74 hs) h.1 dX9_takeRing_83 ?_
        have h := h.2
        refine ww_iald C (shc_71 hs) h.1 dX9_takeRing_84 ?_
        have h := h.2
        refine ww_aload_n C 0 rfl dX9_takeRing_85 ?_
        refine ww_getR C (shc_61 hs) rfl inG9 21 (by decide) nq_130 rfl dX9_takeRing_86 ?_
        refine ww_aload_n C 0 rfl dX9_takeRing_89 ?_
        refine ww_getR C (shc_61 hs) rfl inG9 25 (by decide) nq_133 rfl dX9_takeRing_90 ?_
        refine ww_iload C 6 rfl dX9_takeRing_93 ?_
        refine ww_iald C (shc_74 hs) h.1 dX9_takeRing_95 ?_
        have h := h.2
        refine ww_iald C (shc_71 hs) h.1 dX9_takeRing_96 ?_
        have h := h.2
        refine ww_vi (n := 2) (As := [.int (σ.1 71 (σ.1 74 x5.toNatClampNeg).toNatClampNeg), .int (σ.1 71 (σ.1 74 x6.toNatClampNeg).toNatClampNeg)]) (rest := []) C (c_X9_areGated hs h) (shc_61 hs) rfl nq_645 nq_646 nq_647 nq_5 nq_648 (by decide +kernel) rfl rfl ⟨Nat.le_of_ble_eq_true rfl, Nat.le_of_ble_eq_true rfl, Nat.le_of_ble_eq_true rfl, Nat.le_of_ble_eq_true rfl⟩ (Nat.le_of_ble_eq_true rfl) dX9_takeRing_97 (fun r97 σ97 h => ?_)
        refine ww_if_eq (tgt := 107) C dX9_takeRing_100 (by decide) (fun hc => ?_) (fun hc => ?_)
        · have h := h.1 hc
          refine ww_sub [0, 1, 3, 4, 5, 6] rfl ?_
          exact w_X9_takeRing_J107 (Q := Q) (a1 := a1) C hr hlk hs hK160 hRc h
        · have h := h.2 hc
          refine ww_sub [0, 1, 3, 4, 5, 6] rfl ?_
          exact w_X9_takeRing_J103 (Q := Q) (a1 := a1) C hr hlk hs hK160 hRc h
set_option maxRecDepth 100000 in
set_option maxHeartbeats 4000000 in
theorem w_X9_takeRing_L55 {p : Program} {l : Launch} {e : Env} {s : State} {m : MethodId} {args : Array Value} {below : List Frame} {meth : Method} {c : Code} {dC : Nat → ClassId} {dI : Nat → Nat → Nat} {cA : Nat → ClassId} {A : Nat → Prop} {al : Nat → Nat} {sh : List Kd} (C : Fx p s m args c cX9_takeRing 8 yX9_takeRing.cls dC dI cA A al) (hr : meth.sig.returnType = none) (hlk : meth.locks = false) (hs : ShC sh) {a1 : Int32} {Q : St → Prop} {x4 : Int32} {x5 : Int32} {K160 : St → Int32 → Int32 → Prop} (hK160 : ∀ (σ : St) (x2 : Int32) (x3 : Int32), K160 σ x2 x3 → WW p l e (RM 1) s m args below meth c (MQ below (va_Qv Q (WPost dC dI cA al sh A) A) args s 0 0 A) dC dI cA A 8 0 0 al sh 160 [(0, .ref 61), (1, .int a1), (2, .int x2), (3, .int x3), (4, .int x4), (5, .int x5)] [] σ) : ∀ (f : Nat) (σ : St) (x2 : Int32) (x3 : Int32) (x6 : Int32), m_X9_takeRing_L55 a1 Q x4 x5 K160 f σ x2 x3 x6 → WW p l e (RM 1) s m args below meth c (MQ below (va_Qv Q (WPost dC dI cA al sh A) A) args s 0 0 A) dC dI cA A 8 0 0 al sh 55 [(0, .ref 61), (1, .int a1), (2, .int x2), (3, .int x3), (4, .int x4), (5, .int x5), (6, .int x6)] [] σ := by
  intro f
  induction f with
  | zero => intro σ x2 x3 x6 h; exact False.elim h
  | succ f ih => intro σ x2 x3 x6 h; exact w_X9_takeRing_L55b (Q := Q) (a1 := a1) C hr hlk hs hK160 ih h
set_option maxRecDepth 100000 in
set_option maxHeartbeats 4000000 in
theorem w_X9_takeRing_J160 {p : Program} {l : Launch} {e : Env} {s : State} {m : MethodId} {args : Array Value} {below : List Frame} {meth : Method} {c : Code} {dC : Nat → ClassId} {dI : Nat → Nat → Nat} {cA : Nat → ClassId} {A : Nat → Prop} {al : Nat → Nat} {sh : List Kd} (C : Fx p s m args c cX9_takeRing 8 yX9_takeRing.cls dC dI cA A al) (hr : meth.sig.returnType = none) (hlk : meth.locks = false) (hs : ShC sh) {a1 : Int32} {Q : St → Prop} {K166 : St → Int32 → Int32 → Int32 → Prop} (hK166 : ∀ (σ : St) (x2 : Int32) (x3 : Int32) (x4 : Int32), K166 σ x2 x3 x4 → WW p l e (RM 1) s m args below meth c (MQ below (va_Qv Q (WPost dC dI cA al sh A) A) args s 0 0 A) dC dI cA A 8 0 0 al sh 166 [(0, .ref 61), (1, .int a1), (2, .int x2), (3, .int x3), (4, .int x4)] [] σ) {Rc : St → Int32 → Int32 → Int32 → Int32 → Prop} (hRc : ∀ (σ : St) (x2 : Int32) (x3 : Int32) (x4 : Int32) (x5 : Int32), Rc σ x2 x3 x4 x5 → WW p l e (RM 1) s m args below meth c (MQ below (va_Qv Q (WPost dC dI cA al sh A) A) args s 0 0 A) dC dI cA A 8 0 0 al sh 10 [(0, .ref 61), (1, .int a1), (2, .int x2), (3, .int x3), (4, .int x4), (5, .int x5)] [] σ) {σ : St} {x2 : Int32} {x3 : Int32} {x4 : Int32} {x5 : Int32} (h : m_X9_takeRing_J160 a1 Q K166 Rc σ x2 x3 x4 x5) : WW p l e (RM 1) s m args below meth c (MQ below (va_Qv Q (WPost dC dI cA al sh A) A) args s 0 0 A) dC dI cA A 8 0 0 al sh 160 [(0, .ref 61), (1, .int a1), (2, .int x2), (3, .int x3), (4, .int x4), (5, .int x5)] [] σ := by
  unfold m_X9_takeRing_J160 at h
  refine ww_iinc (v := (x5 + 1)) (lv' := [(5, .int (x5 + 1)), (0, .ref 61), (1, .int a1), (2, .int x2), (3, .int x3), (4, .int x4)]) C 5 rfl dX9_takeRing_160 rfl (by decide) rfl ?_
  refine ww_goto (tgt := 10) C dX9_takeRing_163 (by decide) ?_
  refine ww_sub [1, 2, 3, 4, 5, 0] rfl ?_
  exact hRc _ _ _ _ _ h
set_option maxRecDepth 100000 in
set_option maxHeartbeats 4000000 in
theorem w_X9_takeRing_J50 {p : Program} {l : Launch} {e : Env} {s : State} {m : MethodId} {args : Array Value} {below : List Frame} {meth : Method} {c : Code} {dC : Nat → ClassId} {dI : Nat → Nat → Nat} {cA : Nat → ClassId} {A : Nat → Prop} {al : Nat → Nat} {sh : List Kd} (C : Fx p s m args c cX9_takeRing 8 yX9_takeRing.cls dC dI cA A al) (hr : meth.sig.returnType = none) (hlk : meth.locks = false) (hs : ShC sh) {a1 : Int32} {Q : St → Prop} {K166 : St → Int32 → Int32 → Int32 → Prop} (hK166 : ∀ (σ : St) (x2 : Int32) (x3 : Int32) (x4 : Int32), K166 σ x2 x3 x4 → WW p l e (RM 1) s m args below meth c (MQ below (va_Qv Q (WPost dC dI cA al sh A) A) args s 0 0 A) dC dI cA A 8 0 0 al sh 166 [(0, .ref 61), (1, .int a1), (2, .int x2), (3, .int x3), (4, .int x4)] [] σ) {Rc : St → Int32 → Int32 → Int32 → Int32 → Prop} (hRc : ∀ (σ : St) (x2 : Int32) (x3 : Int32) (x4 : Int32) (x5 : Int32), Rc σ x2 x3 x4 x5 → WW p l e (RM 1) s m args below meth c (MQ below (va_Qv Q (WPost dC dI cA al sh A) A) args s 0 0 A) dC dI cA A 8 0 0 al sh 10 [(0, .ref 61), (1, .int a1), (2, .int x2), (3, .int x3), (4, .int x4), (5, .int x5)] [] σ) {σ : St} {x2 : Int32} {x3 : Int32} {x5 : Int32} {t0 : Int32} (h : m_X9_takeRing_J50 a1 Q K166 Rc σ x2 x3 x5 t0) : WW p l e (RM 1) s m args below meth c (MQ below (va_Qv Q (WPost dC dI cA al sh A) A) args s 0 0 A) dC dI cA A 8 0 0 al sh 50 [(0, .ref 61), (1, .int a1), (2, .int x2), (3, .int x3), (5, .int x5)] [.int t0] σ := by
  unfold m_X9_takeRing_J50 at h
  refine ww_istore (lv' := [(4, .int t0), (0, .ref 61), (1, .int a1), (2, .int x2), (3, .int x3), (5, .int x5)]) C dX9_takeRing_50 (by decide) rfl ?_
  refine ww_iconst (v := 0) C dX9_takeRing_52 (by decide) ?_
  refine ww_istore (lv' := [(6, .int 0), (4, .int t0), (0, .ref 61), (1, .int a1), (2, .int x2), (3, .int x3), (5, .int x5)]) C dX9_takeRing_53 (by decide) rfl ?_
  refine ww_sub [2, 3, 4, 5, 1, 6, 0] rfl ?_
  obtain ⟨f, h⟩ := h
  exact w_X9_takeRing_L55 (Q := Q) (a1 := a1) C hr hlk hs (fun σ x2 x3 h => by exact w_X9_takeRing_J160 (Q := Q) (a1 := a1) C hr hlk hs hK166 hRc h) f _ _ _ _ h
set_option maxRecDepth 100000 in
set_option maxHeartbeats 4000000 in
theorem w_X9_takeRing_L10b {p : Program} {l : Launch} {e : Env} {s : State} {m : MethodId} {args : Array Value} {below : List Frame} {meth : Method} {c : Code} {dC : Nat → ClassId} {dI : Nat → Nat → Nat} {cA : Nat → ClassId} {A : Nat → Prop} {al : Nat → Nat} {sh : List Kd} (C : Fx p s m args c cX9_takeRing 8 yX9_takeRing.cls dC dI cA A al) (hr : meth.sig.returnType = none) (hlk : meth.locks = false) (hs : ShC sh) {a1 : Int32} {Q : St → Prop} {K166 : St → Int32 → Int32 → Int32 → Prop} (hK166 : ∀ (σ : St) (x2 : Int32) (x3 : Int32) (x4 : Int32), K166 σ x2 x3 x4 → WW p l e (RM 1) s m args below meth c (MQ below (va_Qv Q (WPost dC dI cA al sh A) A) args s 0 0 A) dC dI cA A 8 0 0 al sh 166 [(0, .ref 61), (1, .int a1), (2, .int x2), (3, .int x3), (4, .int x4)] [] σ) {Rc : St → Int32 → Int32 → Int32 → Int32 → Prop} (hRc : ∀ (σ : St) (x2 : Int32) (x3 : Int32) (x4 : Int32) (x5 : Int32), Rc σ x2 x3 x4 x5 → WW p l e (RM 1) s m args below meth c (MQ below (va_Qv Q (WPost dC dI cA al sh A) A) args s 0 0 A) dC dI cA A 8 0 0 al sh 10 [(0, .ref 61), (1, .int a1), (2, .int x2), (3, .int x3), (4, .int x4), (5, .int x5)] [] σ) {σ : St} {x2 : Int32} {x3 : Int32} {x4 : Int32} {x5 : Int32} (h : m_X9_takeRing_L10b a1 Q K166 Rc σ x2 x3 x4 x5) : WW p l e (RM 1) s m args below meth c (MQ below (va_Qv Q (WPost dC dI cA al sh A) A) args s 0 0 A) dC dI cA A 8 0 0 al sh 10 [(0, .ref 61), (1, .int a1), (2, .int x2), (3, .int x3), (4, .int x4), (5, .int x5)] [] σ := by
  unfold m_X9_takeRing_L10b at h
  refine ww_iload C 5 rfl dX9_takeRing_10 ?_
  refine ww_iload_n C 1 rfl dX9_takeRing_12 ?_
  refine ww_icmp_ge (tgt := 166) C dX9_takeRing_13 (by decide) (fun hc => ?_) (fun hc => ?_)
  · have h := h.1 hc
    refine ww_sub [0, 1, 2, 3, 4] rfl ?_
    exact hK166 _ _ _ _ h
  · have h := h.2 hc
    refine ww_aload_n C 0 rfl dX9_takeRing_16 ?_
    refine ww_getR C (shc_61 hs) rfl inG9 21 (by decide) nq_130 rfl dX9_takeRing_17 ?_
    refine ww_aload_n C 0 rfl dX9_takeRing_20 ?_
    refine ww_getR C (shc_61 hs) rfl inG9 25 (by decide) nq_133 rfl dX9_takeRing_21 ?_
    refine ww_iload C 5 rfl dX9_takeRing_24 ?_
    refine ww_iald C (shc_74 hs) h.1 dX9_takeRing_26 ?_
    have h := h.2
    refine ww_iald C (shc_71 hs) h.1 dX9_takeRing_27 ?_
    have h := h.2
    refine ww_aload_n C 0 rfl dX9_takeRing_28 ?_
    refine ww_getR C (shc_61 hs) rfl inG9 21 (by decide) nq_130 rfl dX9_takeRing_29 ?_
    refine ww_aload_n C 0 rfl dX9_takeRing_32 ?_
    refine ww_getR C (shc_61 hs) rfl inG9 25 (by decide) nq_133 rfl dX9_takeRing_33 ?_
    refine ww_iload C 4 rfl dX9_takeRing_36 ?_
    refine ww_iald C (shc_74 hs) h.1 dX9_takeRing_38 ?_
    have h := h.2
    refine ww_iald C (shc_71 hs) h.1 dX9_takeRing_39 ?_
    have h := h.2
    refine ww_icmp_ge (tgt := 48) C dX9_takeRing_40 (by decide) (fun hc => ?_) (fun hc => ?_)
    · have h := h.1 hc
      refine ww_iload C 4 rfl dX9_takeRing_48 ?_
      refine ww_sub [0, 1, 2, 3, 5] rfl ?_
      exact w_X9_takeRing_J50 (Q := Q) (a1 := a1) C hr hlk hs hK166 hRc h
    · have h := h.2 hc
      refine ww_iload C 5 rfl dX9_takeRing_43 ?_
      refine ww_goto (tgt := 50) C dX9_takeRing_45 (by decide) ?_
      refine ww_sub [0, 1, 2, 3, 5] rfl ?_
      exact w_X9_takeRing_J50 (Q := Q) (a1 := a1) C hr hlk hs hK166 hRc h
set_option maxRecDepth 100000 in
set_option maxHeartbeats 4000000 in
theorem w_X9_takeRing_L10 {p : Program} {l : Launch} {e : Env} {s : State} {m : MethodId} {args : Array Value} {below : List Frame} {meth : Method} {c : Code} {dC : Nat → ClassId} {dI : Nat → Nat → Nat} {cA : Nat → ClassId} {A : Nat → Prop} {al : Nat → Nat} {sh : List Kd} (C : Fx p s m args c cX9_takeRing 8 yX9_takeRing.cls dC dI cA A al) (hr : meth.sig.returnType = none) (hlk : meth.locks = false) (hs : ShC sh) {a1 : Int32} {Q : St → Prop} {K166 : St → Int32 → Int32 → Int32 → Prop} (hK166 : ∀ (σ : St) (x2 : Int32) (x3 : Int32) (x4 : Int32), K166 σ x2 x3 x4 → WW p l e (RM 1) s m args below meth c (MQ below (va_Qv Q (WPost dC dI cA al sh A) A) args s 0 0 A) dC dI cA A 8 0 0 al sh 166 [(0, .ref 61), (1, .int a1), (2, .int x2), (3, .int x3), (4, .int x4)] [] σ) : ∀ (f : Nat) (σ : St) (x2 : Int32) (x3 : Int32) (x4 : Int32) (x5 : Int32), m_X9_takeRing_L10 a1 Q K166 f σ x2 x3 x4 x5 → WW p l e (RM 1) s m args below meth c (MQ below (va_Qv Q (WPost dC dI cA al sh A) A) args s 0 0 A) dC dI cA A 8 0 0 al sh 10 [(0, .ref 61), (1, .int a1), (2, .int x2), (3, .int x3), (4, .int x4), (5, .int x5)] [] σ := by
  intro f
  induction f with
  | zero => intro σ x2 x3 x4 x5 h; exact False.elim h
  | succ f ih => intro σ x2 x3 x4 x5 h; exact w_X9_takeRing_L10b (Q := Q) (a1 := a1) C hr hlk hs hK166 ih h
set_option maxRecDepth 100000 in
set_option maxHeartbeats 4000000 in
theorem w_X9_takeRing_L237b {p : Program} {l : Launch} {e : Env} {s : State} {m : MethodId} {args : Array Value} {below : List Frame} {meth : Method} {c : Code} {dC : Nat → ClassId} {dI : Nat → Nat → Nat} {cA : Nat → ClassId} {A : Nat → Prop} {al : Nat → Nat} {sh : List Kd} (C : Fx p s m args c cX9_takeRing 8 yX9_takeRing.cls dC dI cA A al) (hr : meth.sig.returnType = none) (hlk : meth.locks = false) (hs : ShC sh) {a1 : Int32} {Q : St → Prop} {x4 : Int32} {K278 : St → Int64 → Prop} (hK278 : ∀ (σ : St) (x5 : Int64), K278 σ x5 → WW p l e (RM 1) s m args below meth c (MQ below (va_Qv Q (WPost dC dI cA al sh A) A) args s 0 0 A) dC dI cA A 8 0 0 al sh 278 [(0, .ref 61), (5, .long x5)] [] σ) {Rc : St → Int64 → Int32 → Prop} (hRc : ∀ (σ : St) (x5 : Int64) (x7 : Int32), Rc σ x5 x7 → WW p l e (RM 1) s m args below meth c (MQ below (va_Qv Q (WPost dC dI cA al sh A) A) args s 0 0 A) dC dI cA A 8 0 0 al sh 237 [(0, .ref 61), (1, .int a1), (4, .int x4), (5, .long x5), (7, .int x7)] [] σ) {σ : St} {x5 : Int64} {x7 : Int32} (h : m_X9_takeRing_L237b a1 Q x4 K278 Rc σ x5 x7) : WW p l e (RM 1) s m args below meth c (MQ below (va_Qv Q (WPost dC dI cA al sh A) A) args s 0 0 A) dC dI cA A 8 0 0 al sh 237 [(0, .ref 61), (1, .int a1), (4, .int x4), (5, .long x5), (7, .int x7)] [] σ := by
  unfold m_X9_takeRing_L237b at h
  refine ww_iload C 4 rfl dX9_takeRing_237 ?_
  refine ww_iload_n C 1 rfl dX9_takeRing_239 ?_
  refine ww_icmp_ge (tgt := 278) C dX9_takeRing_240 (by decide) (fun hc => ?_) (fun hc => ?_)
  · have h := h.1 hc
    refine ww_sub [0, 3] rfl ?_
    exact hK278 _ _ h
  · have h := h.2 hc
    refine ww_ldc2 (v := 100) C nq_644 dX9_takeRing_243 ?_
    refine ww_lload C 3 rfl dX9_takeRing_246 ?_
    refine ww_lmul C dX9_takeRing_248 ?_
    refine ww_aload_n C 0 rfl dX9_takeRing_249 ?_
    refine ww_getR C (shc_61 hs) rfl inG9 21 (by decide) nq_130 rfl dX9_takeRing_250 ?_
    refine ww_aload_n C 0 rfl dX9_takeRing_253 ?_
    refine ww_getR C (shc_61 hs) rfl inG9 25 (by decide) nq_133 rfl dX9_takeRing_254 ?_
    refine ww_iload C 2 rfl dX9_takeRing_257 ?_
    refine ww_iload C 4 rfl dX9_takeRing_259 ?_
    refine ww_iadd C dX9_takeRing_261 ?_
    refine ww_iload_n C 1 rfl dX9_takeRing_262 ?_
    refine ww_irem C dX9_takeRing_263 h.1 ?_
    have h := h.2
    refine ww_iald C (shc_74 hs) h.1 dX9_takeRing_264 ?_
    have h := h.2
    refine ww_iald C (shc_71 hs) h.1 dX9_takeRing_265 ?_
    have h := h.2
    refine ww_i2l C dX9_takeRing_266 ?_
    refine ww_ladd C dX9_takeRing_267 ?_
    refine ww_lconst (v := 1) C dX9_takeRing_268 (by decide) ?_
    refine ww_ladd C dX9_takeRing_269 ?_
    refine ww_nmJ h (fun y270 h => ?_)
    refine ww_lstore (lv' := [(5, .long y270), (0, .ref 61), (1, .int a1), (4, .int x4), (7, .int x7)]) C dX9_takeRing_270 (by decide) rfl ?_
    refine ww_iinc (v := (x7 + 1)) (lv' := [(7, .int (x7 + 1)), (5, .long y270), (0, .ref 61), (1, .int a1), (4, .int x4)]) C 4 rfl dX9_takeRing_272 rfl (by decide) rfl ?_
    refine ww_goto (tgt := 237) C dX9_takeRing_275 (by decide) ?_
    refine ww_sub [2, 3, 4, 1, 0] rfl ?_
    exact hRc _ _ _ h
set_option maxRecDepth 100000 in
set_option maxHeartbeats 4000000 in
theorem w_X9_takeRing_L237 {p : Program} {l : Launch} {e : Env} {s : State} {m : MethodId} {args : Array Value} {below : List Frame} {meth : Method} {c : Code} {dC : Nat → ClassId} {dI : Nat → Nat → Nat} {cA : Nat → ClassId} {A : Nat → Prop} {al : Nat → Nat} {sh : List Kd} (C : Fx p s m args c cX9_takeRing 8 yX9_takeRing.cls dC dI cA A al) (hr : meth.sig.returnType = none) (hlk : meth.locks = false) (hs : ShC sh) {a1 : Int32} {Q : St → Prop} {x4 : Int32} {K278 : St → Int64 → Prop} (hK278 : ∀ (σ : St) (x5 : Int64), K278 σ x5 → WW p l e (RM 1) s m args below meth c (MQ below (va_Qv Q (WPost dC dI cA al sh A) A) args s 0 0 A) dC dI cA A 8 0 0 al sh 278 [(0, .ref 61), (5, .long x5)] [] σ) : ∀ (f : Nat) (σ : St) (x5 : Int64) (x7 : Int32), m_X9_takeRing_L237 a1 Q x4 K278 f σ x5 x7 → WW p l e (RM 1) s m args below meth c (MQ below (va_Qv Q (WPost dC dI cA al sh A) A) args s 0 0 A) dC dI cA A 8 0 0 al sh 237 [(0, .ref 61), (1, .int a1), (4, .int x4), (5, .long x5), (7, .int x7)] [] σ := by
  intro f
  induction f with
  | zero => intro σ x5 x7 h; exact False.elim h
  | succ f ih => intro σ x5 x7 h; exact w_X9_takeRing_L237b (Q := Q) (a1 := a1) C hr hlk hs hK278 ih h
set_option maxRecDepth 100000 in
set_option maxHeartbeats 4000000 in
theorem w_X9_takeRing_J278 {p : Program} {l : Launch} {e : Env} {s : State} {m : MethodId} {args : Array Value} {below : List Frame} {meth : Method} {c : Code} {dC : Nat → ClassId} {dI : Nat → Nat → Nat} {cA : Nat → ClassId} {A : Nat → Prop} {al : Nat → Nat} {sh : List Kd} (C : Fx p s m args c cX9_takeRing 8 yX9_takeRing.cls dC dI cA A al) (hr : meth.sig.returnType = none) (hlk : meth.locks = false) (hs : ShC sh) {a1 : Int32} {Q : St → Prop} {σ : St} {x5 : Int64} (h : m_X9_takeRing_J278 a1 Q σ x5) : WW p l e (RM 1) s m args below meth c (MQ below (va_Qv Q (WPost dC dI cA al sh A) A) args s 0 0 A) dC dI cA A 8 0 0 al sh 278 [(0, .ref 61), (5, .long x5)] [] σ := by
  unfold m_X9_takeRing_J278 at h
  refine ww_aload_n C 0 rfl dX9_takeRing_278 ?_
  refine ww_aload_n C 0 rfl dX9_takeRing_279 ?_
  refine ww_getL C (shc_61 hs) rfl inG9 30 (by decide) nq_623 rfl dX9_takeRing_280 ?_
  refine ww_ldc2 (v := -9) C nq_622 dX9_takeRing_283 ?_
  refine ww_lcmp C dX9_takeRing_286 ?_
  refine ww_if_eq (tgt := 300) C dX9_takeRing_287 (by decide) (fun hc => ?_) (fun hc => ?_)
  · have h := h.1 hc
    refine ww_lload C 1 rfl dX9_takeRing_300 ?_
    refine ww_goto (tgt := 309) C dX9_takeRing_302 (by decide) ?_
    refine ww_putL C (shc_61 hs) rfl inG9 30 (by decide) nq_623 tyX9 tyX9_ok nmX9 rfl (by decide +kernel) rfl dX9_takeRing_309 h (fun σ309 h => ?_)
    exact ww_vret C hr hlk h dX9_takeRing_312
  · have h := h.2 hc
    refine ww_lload C 1 rfl dX9_takeRing_290 ?_
    refine ww_aload_n C 0 rfl dX9_takeRing_292 ?_
    refine ww_getL C (shc_61 hs) rfl inG9 30 (by decide) nq_623 rfl dX9_takeRing_293 ?_
    refine ww_lcmp C dX9_takeRing_296 ?_
    refine ww_if_ge (tgt := 305) C dX9_takeRing_297 (by decide) (fun hc => ?_) (fun hc => ?_)
    · have h := h.1 hc
      refine ww_aload_n C 0 rfl dX9_takeRing_305 ?_
      refine ww_getL C (shc_61 hs) rfl inG9 30 (by decide) nq_623 rfl dX9_takeRing_306 ?_
      refine ww_putL C (shc_61 hs) rfl inG9 30 (by decide) nq_623 tyX9 tyX9_ok nmX9 rfl (by decide +kernel) rfl dX9_takeRing_309 h (fun σ309 h => ?_)
      exact ww_vret C hr hlk h dX9_takeRing_312
    · have h := h.2 hc
      refine ww_lload C 1 rfl dX9_takeRing_300 ?_
      refine ww_goto (tgt := 309) C dX9_takeRing_302 (by decide) ?_
      refine ww_putL C (shc_61 hs) rfl inG9 30 (by decide) nq_623 tyX9 tyX9_ok nmX9 rfl (by decide +kernel) rfl dX9_takeRing_309 h (fun σ309 h => ?_)
      exact ww_vret C hr hlk h dX9_takeRing_312
set_option maxRecDepth 100000 in
set_option maxHeartbeats 4000000 in
theorem w_X9_takeRing_J210 {p : Program} {l : Launch} {e : Env} {s : State} {m : MethodId} {args : Array Value} {below : List Frame} {meth : Method} {c : Code} {dC : Nat → ClassId} {dI : Nat → Nat → Nat} {cA : Nat → ClassId} {A : Nat → Prop} {al : Nat → Nat} {sh : List Kd} (C : Fx p s m args c cX9_takeRing 8 yX9_takeRing.cls dC dI cA A al) (hr : meth.sig.returnType = none) (hlk : meth.locks = false) (hs : ShC sh) {a1 : Int32} {Q : St → Prop} {σ : St} {x2 : Int32} {x3 : Int32} {x4 : Int32} {t1 : Int32} {t2 : Int32} {t3 : Int32} (h : m_X9_takeRing_J210 a1 Q σ x2 x3 x4 t1 t2 t3) : WW p l e (RM 1) s m args below meth c (MQ below (va_Qv Q (WPost dC dI cA al sh A) A) args s 0 0 A) dC dI cA A 8 0 0 al sh 210 [(0, .ref 61), (1, .int a1), (2, .int x2), (3, .int x3), (4, .int x4)] [.int t3, .int t2, .int t1, .ref 77] σ := by
  unfold m_X9_takeRing_J210 at h
  refine ww_iadd C dX9_takeRing_210 ?_
  refine ww_iast C (shc_77 hs) h.1 dX9_takeRing_211 h.2 (fun σ211 h => ?_)
  refine ww_iload_n C 2 rfl dX9_takeRing_212 ?_
  refine ww_if_ne (tgt := 220) C dX9_takeRing_213 (by decide) (fun hc => ?_) (fun hc => ?_)
  · have h := h.1 hc
    exact ww_vret C hr hlk h dX9_takeRing_220
  · have h := h.2 hc
    refine ww_iload_n C 3 rfl dX9_takeRing_216 ?_
    refine ww_if_eq (tgt := 221) C dX9_takeRing_217 (by decide) (fun hc => ?_) (fun hc => ?_)
    · have h := h.1 hc
      refine ww_aload_n C 0 rfl dX9_takeRing_221 ?_
      refine ww_getR C (shc_61 hs) rfl inG9 29 (by decide) nq_137 rfl dX9_takeRing_222 ?_
      refine ww_iload_n C 1 rfl dX9_takeRing_225 ?_
      refine ww_dup2 C rfl rfl dX9_takeRing_226 ?_
      refine ww_iald C (shc_78 hs) h.1 dX9_takeRing_227 ?_
      have h := h.2
      refine ww_iconst (v := 1) C dX9_takeRing_228 (by decide) ?_
      refine ww_iadd C dX9_takeRing_229 ?_
      refine ww_iast C (shc_78 hs) h.1 dX9_takeRing_230 h.2 (fun σ230 h => ?_)
      refine ww_lconst (v := 0) C dX9_takeRing_231 (by decide) ?_
      refine ww_lstore (lv' := [(5, .long 0), (0, .ref 61), (1, .int a1), (2, .int x2), (3, .int x3), (4, .int x4)]) C dX9_takeRing_232 (by decide) rfl ?_
      refine ww_iconst (v := 0) C dX9_takeRing_234 (by decide) ?_
      refine ww_istore (lv' := [(7, .int 0), (5, .long 0), (0, .ref 61), (1, .int a1), (2, .int x2), (3, .int x3), (4, .int x4)]) C dX9_takeRing_235 (by decide) rfl ?_
      refine ww_sub [2, 3, 6, 1, 0] rfl ?_
      obtain ⟨f, h⟩ := h
      exact w_X9_takeRing_L237 (Q := Q) (a1 := a1) C hr hlk hs (fun σ x5 h => by exact w_X9_takeRing_J278 (Q := Q) (a1 := a1) C hr hlk hs h) f _ _ _ h
    · have h := h.2 hc
      exact ww_vret C hr hlk h dX9_takeRing_220
set_option maxRecDepth 100000 in
set_option maxHeartbeats 4000000 in
theorem w_X9_takeRing_J192 {p : Program} {l : Launch} {e : Env} {s : State} {m : MethodId} {args : Array Value} {below : List Frame} {meth : Method} {c : Code} {dC : Nat → ClassId} {dI : Nat → Nat → Nat} {cA : Nat → ClassId} {A : Nat → Prop} {al : Nat → Nat} {sh : List Kd} (C : Fx p s m args c cX9_takeRing 8 yX9_takeRing.cls dC dI cA A al) (hr : meth.sig.returnType = none) (hlk : meth.locks = false) (hs : ShC sh) {a1 : Int32} {Q : St → Prop} {σ : St} {x2 : Int32} {x3 : Int32} {x4 : Int32} {t1 : Int32} {t2 : Int32} {t3 : Int32} (h : m_X9_takeRing_J192 a1 Q σ x2 x3 x4 t1 t2 t3) : WW p l e (RM 1) s m args below meth c (MQ below (va_Qv Q (WPost dC dI cA al sh A) A) args s 0 0 A) dC dI cA A 8 0 0 al sh 192 [(0, .ref 61), (1, .int a1), (2, .int x2), (3, .int x3), (4, .int x4)] [.int t3, .int t2, .int t1, .ref 76] σ := by
  unfold m_X9_takeRing_J192 at h
  refine ww_iadd C dX9_takeRing_192 ?_
  refine ww_iast C (shc_76 hs) h.1 dX9_takeRing_193 h.2 (fun σ193 h => ?_)
  refine ww_aload_n C 0 rfl dX9_takeRing_194 ?_
  refine ww_getR C (shc_61 hs) rfl inG9 28 (by decide) nq_136 rfl dX9_takeRing_195 ?_
  refine ww_iload_n C 1 rfl dX9_takeRing_198 ?_
  refine ww_dup2 C rfl rfl dX9_takeRing_199 ?_
  refine ww_iald C (shc_77 hs) h.1 dX9_takeRing_200 ?_
  have h := h.2
  refine ww_iload_n C 3 rfl dX9_takeRing_201 ?_
  refine ww_if_eq (tgt := 209) C dX9_takeRing_202 (by decide) (fun hc => ?_) (fun hc => ?_)
  · have h := h.1 hc
    refine ww_iconst (v := 0) C dX9_takeRing_209 (by decide) ?_
    exact w_X9_takeRing_J210 (Q := Q) (a1 := a1) C hr hlk hs h
  · have h := h.2 hc
    refine ww_iconst (v := 1) C dX9_takeRing_205 (by decide) ?_
    refine ww_goto (tgt := 210) C dX9_takeRing_206 (by decide) ?_
    exact w_X9_takeRing_J210 (Q := Q) (a1 := a1) C hr hlk hs h
set_option maxRecDepth 100000 in
set_option maxHeartbeats 4000000 in
theorem w_X9_takeRing_J166 {p : Program} {l : Launch} {e : Env} {s : State} {m : MethodId} {args : Array Value} {below : List Frame} {meth : Method} {c : Code} {dC : Nat → ClassId} {dI : Nat → Nat → Nat} {cA : Nat → ClassId} {A : Nat → Prop} {al : Nat → Nat} {sh : List Kd} (C : Fx p s m args c cX9_takeRing 8 yX9_takeRing.cls dC dI cA A al) (hr : meth.sig.returnType = none) (hlk : meth.locks = false) (hs : ShC sh) {a1 : Int32} {Q : St → Prop} {σ : St} {x2 : Int32} {x3 : Int32} {x4 : Int32} (h : m_X9_takeRing_J166 a1 Q σ x2 x3 x4) : WW p l e (RM 1) s m args below meth c (MQ below (va_Qv Q (WPost dC dI cA al sh A) A) args s 0 0 A) dC dI cA A 8 0 0 al sh 166 [(0, .ref 61), (1, .int a1), (2, .int x2), (3, .int x3), (4, .int x4)] [] σ := by
  unfold m_X9_takeRing_J166 at h
  refine ww_aload_n C 0 rfl dX9_takeRing_166 ?_
  refine ww_getR C (shc_61 hs) rfl inG9 26 (by decide) nq_134 rfl dX9_takeRing_167 ?_
  refine ww_iload_n C 1 rfl dX9_takeRing_170 ?_
  refine ww_dup2 C rfl rfl dX9_takeRing_171 ?_
  refine ww_iald C (shc_75 hs) h.1 dX9_takeRing_172 ?_
  have h := h.2
  refine ww_iconst (v := 1) C dX9_takeRing_173 (by decide) ?_
  refine ww_iadd C dX9_takeRing_174 ?_
  refine ww_iast C (shc_75 hs) h.1 dX9_takeRing_175 h.2 (fun σ175 h => ?_)
  refine ww_aload_n C 0 rfl dX9_takeRing_176 ?_
  refine ww_getR C (shc_61 hs) rfl inG9 27 (by decide) nq_135 rfl dX9_takeRing_177 ?_
  refine ww_iload_n C 1 rfl dX9_takeRing_180 ?_
  refine ww_dup2 C rfl rfl dX9_takeRing_181 ?_
  refine ww_iald C (shc_76 hs) h.1 dX9_takeRing_182 ?_
  have h := h.2
  refine ww_iload_n C 2 rfl dX9_takeRing_183 ?_
  refine ww_if_eq (tgt := 191) C dX9_takeRing_184 (by decide) (fun hc => ?_) (fun hc => ?_)
  · have h := h.1 hc
    refine ww_iconst (v := 0) C dX9_takeRing_191 (by decide) ?_
    exact w_X9_takeRing_J192 (Q := Q) (a1 := a1) C hr hlk hs h
  · have h := h.2 hc
    refine ww_iconst (v := 1) C dX9_takeRing_187 (by decide) ?_
    refine ww_goto (tgt := 192) C dX9_takeRing_188 (by decide) ?_
    exact w_X9_takeRing_J192 (Q := Q) (a1 := a1) C hr hlk hs h
set_option maxRecDepth 100000 in
set_option maxHeartbeats 4000000 in
theorem c_X9_takeRing {l : Launch} {dC : Nat → ClassId} {dI : Nat → Nat → Nat} {cA : Nat → ClassId} {al : Nat → Nat} {sh : List Kd} (hs : ShC sh) {σ : St} {a1 : Int32} {Q : St → Prop} (h : m_X9_takeRing σ a1 Q) : ∀ sz, Met l yX9_takeRing (wd yX9_takeRing cX9_takeRing 8 none) (RM 1) (va_Pc ([.ref 61, .int a1].map (cv al)) (WPre dC dI cA al sh σ sz)) (va_Qv Q (WPost dC dI cA al sh (AW al sh sz)) (AW al sh sz)) 0 0 (AW al sh sz) := by
  refine ww_met (Qc := fun A => va_Qv Q (WPost dC dI cA al sh A) A) (by decide +kernel) (Nat.le_of_ble_eq_true rfl) (fun p e s m args below meth c A C hr hlk => ?_)
  show WW p l e (RM 1) s m args below meth c (MQ below (va_Qv Q (WPost dC dI cA al sh A) A) args s 0 0 A) dC dI cA A 8 0 0 al sh 0 [(0, .ref 61), (1, .int a1)] [] σ
  unfold m_X9_takeRing at h
  refine ww_iconst (v := 0) C dX9_takeRing_0 (by decide) ?_
  refine ww_istore_n (lv' := [(2, .int 0), (0, .ref 61), (1, .int a1)]) C dX9_takeRing_1 rfl (by decide) rfl ?_
  refine ww_iconst (v := 0) C dX9_takeRing_2 (by decide) ?_
  refine ww_istore_n (lv' := [(3, .int 0), (2, .int 0), (0, .ref 61), (1, .int a1)]) C dX9_takeRing_3 rfl (by decide) rfl ?_
  refine ww_iconst (v := 0) C dX9_takeRing_4 (by decide) ?_
  refine ww_istore (lv' := [(4, .int 0), (3, .int 0), (2, .int 0), (0, .ref 61), (1, .int a1)]) C dX9_takeRing_5 (by decide) rfl ?_
  refine ww_iconst (v := 0) C dX9_takeRing_7 (by decide) ?_
  refine ww_istore (lv' := [(5, .int 0), (4, .int 0), (3, .int 0), (2, .int 0), (0, .ref 61), (1, .int a1)]) C dX9_takeRing_8 (by decide) rfl ?_
  refine ww_sub [4, 5, 3, 2, 1, 0] rfl ?_
  obtain ⟨f, h⟩ := h
  exact w_X9_takeRing_L10 (Q := Q) (a1 := a1) C hr hlk hs (fun σ x2 x3 x4 h => by exact w_X9_takeRing_J166 (Q := Q) (a1 := a1) C hr hlk hs h) f _ _ _ _ _ h
