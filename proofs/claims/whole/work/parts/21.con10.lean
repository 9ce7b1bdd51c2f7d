set_option maxRecDepth 100000 in
set_option maxHeartbeats 4000000 in
theorem c_X9_see {l : Launch} {dC : Nat → ClassId} {dI : Nat → Nat → Nat} {cA : Nat → ClassId} {al : Nat → Nat} {sh : List Kd} (hs : ShC sh) {σ : St} {a1 : Int32} {a2 : Int32} {a3 : Int32} {Q : Int32 → St → Prop} (h : m_X9_see σ a1 a2 a3 Q) : ∀ sz, Met l yX9_see (wd yX9_see cX9_see 4 (some .int)) (RM 2) (va_Pc ([.ref 61, .int a1, .int a2, .int a3].map (cv al)) (WPre dC dI cA al sh σ sz)) (va_Qi Q (WPost dC dI cA al sh (AW al sh sz)) (AW al sh sz)) 0 0 (AW al sh sz) := by
  refine ww_met (Qc := fun A => va_Qi Q (WPost dC dI cA al sh A) A) (by decide +kernel) (Nat.le_of_ble_eq_true rfl) (fun p e s m args below meth c A C hr hlk => ?_)
  show WW p l e (RM 2) s m args below meth c (MQ below (va_Qi Q (WPost dC dI cA al sh A) A) args s 0 0 A) dC dI cA A 4 0 0 al sh 0 [(0, .ref 61), (1, .int a1), (2, .int a2), (3, .int a3)] [] σ
  unfold m_X9_see at h
  refine ww_iload_n C 1 rfl dX9_see_0 ?_
  refine ww_si (n := 1) (As := [.int a1]) (rest := []) C (c_X9_isFour hs h) nq_482 nq_483 nq_5 nq_484 (by decide +kernel) rfl rfl ⟨Nat.le_of_ble_eq_true rfl, Nat.le_of_ble_eq_true rfl, Nat.le_of_ble_eq_true rfl, Nat.le_of_ble_eq_true rfl⟩ (Nat.le_of_ble_eq_true rfl) dX9_see_1 (fun r1 σ1 h => ?_)
  refine ww_if_ne (tgt := 9) C dX9_see_4 (by decide) (fun hc => ?_) (fun hc => ?_)
  · have h := h.1 hc
    refine ww_iload_n C 2 rfl dX9_see_9 ?_
    refine ww_si (n := 1) (As := [.int a2]) (rest := []) C (c_X9_isFour hs h) nq_482 nq_483 nq_5 nq_484 (by decide +kernel) rfl rfl ⟨Nat.le_of_ble_eq_true rfl, Nat.le_of_ble_eq_true rfl, Nat.le_of_ble_eq_true rfl, Nat.le_of_ble_eq_true rfl⟩ (Nat.le_of_ble_eq_true rfl) dX9_see_10 (fun r10 σ10 h => ?_)
    refine ww_if_eq (tgt := 26) C dX9_see_13 (by decide) (fun hc => ?_) (fun hc => ?_)
    · have h := h.1 hc
      refine ww_bipush (v := -2) C dX9_see_26 (by decide) ?_
      exact ww_iret C hr hlk h dX9_see_28
    · have h := h.2 hc
      refine ww_iload_n C 3 rfl dX9_see_16 ?_
      refine ww_i2l C dX9_see_17 ?_
      refine ww_lconst (v := 0) C dX9_see_18 (by decide) ?_
      refine ww_lconst (v := 1) C dX9_see_19 (by decide) ?_
      refine ww_si (n := 3) (As := [.long (a3.toInt64), .long 0, .long 1]) (rest := []) C (c_X9_in hs h) nq_159 nq_160 nq_5 nq_161 (by decide +kernel) rfl rfl ⟨Nat.le_of_ble_eq_true rfl, Nat.le_of_ble_eq_true rfl, Nat.le_of_ble_eq_true rfl, Nat.le_of_ble_eq_true rfl⟩ (Nat.le_of_ble_eq_true rfl) dX9_see_20 (fun r20 σ20 h => ?_)
      refine ww_if_ne (tgt := 29) C dX9_see_23 (by decide) (fun hc => ?_) (fun hc => ?_)
      · have h := h.1 hc
        refine ww_aload_n C 0 rfl dX9_see_29 ?_
        refine ww_getI C (shc_61 hs) rfl inG9 32 (by decide) nq_720 rfl dX9_see_30 ?_
        refine ww_bipush (v := 6) C dX9_see_33 (by decide) ?_
        refine ww_icmp_ne (tgt := 41) C dX9_see_35 (by decide) (fun hc => ?_) (fun hc => ?_)
        · have h := h.1 hc
          refine ww_aload_n C 0 rfl dX9_see_41 ?_
          refine ww_getR C (shc_61 hs) rfl inG9 33 (by decide) nq_139 rfl dX9_see_42 ?_
          refine ww_aload_n C 0 rfl dX9_see_45 ?_
          refine ww_getI C (shc_61 hs) rfl inG9 32 (by decide) nq_720 rfl dX9_see_46 ?_
          refine ww_iload_n C 1 rfl dX9_see_49 ?_
          refine ww_iast C (shc_80 hs) h.1 dX9_see_50 h.2 (fun σ50 h => ?_)
          refine ww_aload_n C 0 rfl dX9_see_51 ?_
          refine ww_getR C (shc_61 hs) rfl inG9 34 (by decide) nq_140 rfl dX9_see_52 ?_
          refine ww_aload_n C 0 rfl dX9_see_55 ?_
          refine ww_getI C (shc_61 hs) rfl inG9 32 (by decide) nq_720 rfl dX9_see_56 ?_
          refine ww_iload_n C 2 rfl dX9_see_59 ?_
          refine ww_iast C (shc_81 hs) h.1 dX9_see_60 h.2 (fun σ60 h => ?_)
          refine ww_aload_n C 0 rfl dX9_see_61 ?_
          refine ww_getR C (shc_61 hs) rfl inG9 35 (by decide) nq_141 rfl dX9_see_62 ?_
          refine ww_aload_n C 0 rfl dX9_see_65 ?_
          refine ww_getI C (shc_61 hs) rfl inG9 32 (by decide) nq_720 rfl dX9_see_66 ?_
          refine ww_iload_n C 3 rfl dX9_see_69 ?_
          refine ww_iast C (shc_82 hs) h.1 dX9_see_70 h.2 (fun σ70 h => ?_)
          refine ww_aload_n C 0 rfl dX9_see_71 ?_
          refine ww_dup C rfl dX9_see_72 ?_
          refine ww_getI C (shc_61 hs) rfl inG9 32 (by decide) nq_720 rfl dX9_see_73 ?_
          refine ww_iconst (v := 1) C dX9_see_76 (by decide) ?_
          refine ww_iadd C dX9_see_77 ?_
          refine ww_putI C (shc_61 hs) rfl inG9 32 (by decide) nq_720 tyX9 tyX9_ok nmX9 rfl (by decide +kernel) rfl dX9_see_78 h (fun σ78 h => ?_)
          refine ww_aload_n C 0 rfl dX9_see_81 ?_
          refine ww_getI C (shc_61 hs) rfl inG9 32 (by decide) nq_720 rfl dX9_see_82 ?_
          exact ww_iret C hr hlk h dX9_see_85
        · have h := h.2 hc
          refine ww_bipush (v := -4) C dX9_see_38 (by decide) ?_
          exact ww_iret C hr hlk h dX9_see_40
      · have h := h.2 hc
        refine ww_bipush (v := -2) C dX9_see_26 (by decide) ?_
        exact ww_iret C hr hlk h dX9_see_28
  · have h := h.2 hc
    refine ww_iconst (v := -1) C dX9_see_7 (by decide) ?_
    exact ww_iret C hr hlk h dX9_see_8
set_option maxRecDepth 100000 in
set_option maxHeartbeats 4000000 in
theorem c_X9_unsee {l : Launch} {dC : Nat → ClassId} {dI : Nat → Nat → Nat} {cA : Nat → ClassId} {al : Nat → Nat} {sh : List Kd} (hs : ShC sh) {σ : St} {Q : Int32 → St → Prop} (h : m_X9_unsee σ Q) : ∀ sz, Met l yX9_unsee (wd yX9_unsee cX9_unsee 2 (some .int)) (RM 0) (va_Pc ([.ref 61].map (cv al)) (WPre dC dI cA al sh σ sz)) (va_Qi Q (WPost dC dI cA al sh (AW al sh sz)) (AW al sh sz)) 0 0 (AW al sh sz) := by
  refine ww_met (Qc := fun A => va_Qi Q (WPost dC dI cA al sh A) A) (by decide +kernel) (Nat.le_of_ble_eq_true rfl) (fun p e s m args below meth c A C hr hlk => ?_)
  show WW p l e (RM 0) s m args below meth c (MQ below (va_Qi Q (WPost dC dI cA al sh A) A) args s 0 0 A) dC dI cA A 2 0 0 al sh 0 [(0, .ref 61)] [] σ
  unfold m_X9_unsee at h
  refine ww_aload_n C 0 rfl dX9_unsee_0 ?_
  refine ww_getI C (shc_61 hs) rfl inG9 32 (by decide) nq_720 rfl dX9_unsee_1 ?_
  refine ww_nmI h (fun y4 h => ?_)
  refine ww_istore_n (lv' := [(1, .int y4), (0, .ref 61)]) C dX9_unsee_4 rfl (by decide) rfl ?_
  refine ww_aload_n C 1 rfl dX9_unsee_5 ?_
  refine ww_iconst (v := 0) C dX9_unsee_6 (by decide) ?_
  refine ww_putI C (shc_61 hs) rfl inG9 32 (by decide) nq_720 tyX9 tyX9_ok nmX9 rfl (by decide +kernel) rfl dX9_unsee_7 h (fun σ7 h => ?_)
  refine ww_iload_n C 0 rfl dX9_unsee_10 ?_
  exact ww_iret C hr hlk h dX9_unsee_11
set_option maxRecDepth 100000 in
set_option maxHeartbeats 4000000 in
theorem w_X9_which_J120 {p : Program} {l : Launch} {e : Env} {s : State} {m : MethodId} {args : Array Value} {below : List Frame} {meth : Method} {c : Code} {dC : Nat → ClassId} {dI : Nat → Nat → Nat} {cA : Nat → ClassId} {A : Nat → Prop} {al : Nat → Nat} {sh : List Kd} (C : Fx p s m args c cX9_which 7 yX9_which.cls dC dI cA A al) (hr : meth.sig.returnType = some .int) (hlk : meth.locks = false) (hs : ShC sh) {a1 : Int32} {Q : Int32 → St → Prop} {x2 : Int32} {x3 : Int32} {x4 : Int32} {K136 : St → Int32 → Prop} (hK136 : ∀ (σ : St) (x5 : Int32), K136 σ x5 → WW p l e (RM 4) s m args below meth c (MQ below (va_Qi Q (WPost dC dI cA al sh A) A) args s 0 0 A) dC dI cA A 7 0 0 al sh 136 [(0, .ref 61), (1, .int a1), (2, .int x2), (3, .int x3), (4, .int x4), (5, .int x5)] [] σ) {Rc : St → Int32 → Int32 → Prop} (hRc : ∀ (σ : St) (x5 : Int32) (x6 : Int32), Rc σ x5 x6 → WW p l e (RM 4) s m args below meth c (MQ below (va_Qi Q (WPost dC dI cA al sh A) A) args s 0 0 A) dC dI cA A 7 0 0 al sh 48 [(0, .ref 61), (1, .int a1), (2, .int x2), (3, .int x3), (4, .int x4), (5, .int x5), (6, .int x6)] [] σ) {σ : St} {x6 : Int32} {t0 : Int32} {t1 : Int32} (h : m_X9_which_J120 a1 Q x2 x3 x4 K136 Rc σ x6 t0 t1) : WW p l e (RM 4) s m args below meth c (MQ below (va_Qi Q (WPost dC dI cA al sh A) A) args s 0 0 A) dC dI cA A 7 0 0 al sh 120 [(0, .ref 61), (1, .int a1), (2, .int x2), (3, .int x3), (4, .int x4), (6, .int x6)] [.int t1, .int t0] σ := by
  unfold m_X9_which_J120 at h
  refine ww_icmp_ne (tgt := 127) C dX9_which_120 (by decide) (fun hc => ?_) (fun hc => ?_)
  · have h := h.1 hc
    refine ww_iconst (v := 0) C dX9_which_127 (by decide) ?_
    refine ww_istore (lv' := [(5, .int 0), (0, .ref 61), (1, .int a1), (2, .int x2), (3, .int x3), (4, .int x4), (6, .int x6)]) C dX9_which_128 (by decide) rfl ?_
    refine ww_iinc (v := (x6 + 1)) (lv' := [(6, .int (x6 + 1)), (5, .int 0), (0, .ref 61), (1, .int a1), (2, .int x2), (3, .int x3), (4, .int x4)]) C 6 rfl dX9_which_130 rfl (by decide) rfl ?_
    refine ww_goto (tgt := 48) C dX9_which_133 (by decide) ?_
    refine ww_sub [2, 3, 4, 5, 6, 1, 0] rfl ?_
    exact hRc _ _ _ h
  · have h := h.2 hc
    refine ww_iconst (v := 1) C dX9_which_123 (by decide) ?_
    refine ww_goto (tgt := 128) C dX9_which_124 (by decide) ?_
    refine ww_istore (lv' := [(5, .int 1), (0, .ref 61), (1, .int a1), (2, .int x2), (3, .int x3), (4, .int x4), (6, .int x6)]) C dX9_which_128 (by decide) rfl ?_
    refine ww_iinc (v := (x6 + 1)) (lv' := [(6, .int (x6 + 1)), (5, .int 1), (0, .ref 61), (1, .int a1), (2, .int x2), (3, .int x3), (4, .int x4)]) C 6 rfl dX9_which_130 rfl (by decide) rfl ?_
    refine ww_goto (tgt := 48) C dX9_which_133 (by decide) ?_
    refine ww_sub [2, 3, 4, 5, 6, 1, 0] rfl ?_
    exact hRc _ _ _ h
set_option maxRecDepth 100000 in
set_option maxHeartbeats 4000000 in
theorem w_X9_which_J104 {p : Program} {l : Launch} {e : Env} {s : State} {m : MethodId} {args : Array Value} {below : List Frame} {meth : Method} {c : Code} {dC : Nat → ClassId} {dI : Nat → Nat → Nat} {cA : Nat → ClassId} {A : Nat → Prop} {al : Nat → Nat} {sh : List Kd} (C : Fx p s m args c cX9_which 7 yX9_which.cls dC dI cA A al) (hr : meth.sig.returnType = some .int) (hlk : meth.locks = false) (hs : ShC sh) {a1 : Int32} {Q : Int32 → St → Prop} {x2 : Int32} {x3 : Int32} {x4 : Int32} {K136 : St → Int32 → Prop} (hK136 : ∀ (σ : St) (x5 : Int32), K136 σ x5 → WW p l e (RM 4) s m args below meth c (MQ below (va_Qi Q (WPost dC dI cA al sh A) A) args s 0 0 A) dC dI cA A 7 0 0 al sh 136 [(0, .ref 61), (1, .int a1), (2, .int x2), (3, .int x3), (4, .int x4), (5, .int x5)] [] σ) {Rc : St → Int32 → Int32 → Prop} (hRc : ∀ (σ : St) (x5 : Int32) (x6 : Int32), Rc σ x5 x6 → WW p l e (RM 4) s m args below meth c (MQ below (va_Qi Q (WPost dC dI cA al sh A) A) args s 0 0 A) dC dI cA A 7 0 0 al sh 48 [(0, .ref 61), (1, .int a1), (2, .int x2), (3, .int x3), (4, .int x4), (5, .int x5), (6, .int x6)] [] σ) {σ : St} {x6 : Int32} {t0 : Int32} (h : m_X9_which_J104 a1 Q x2 x3 x4 K136 Rc σ x6 t0) : WW p l e (RM 4) s m args below meth c (MQ below (va_Qi Q (WPost dC dI cA al sh A) A) args s 0 0 A) dC dI cA A 7 0 0 al sh 104 [(0, .ref 61), (1, .int a1), (2, .int x2), (3, .int x3), (4, .int x4), (6, .int x6)] [.int t0] σ := by
  unfold m_X9_which_J104 at h
  refine ww_aload_n C 0 rfl dX9_which_104 ?_
  refine ww_getR C (shc_61 hs) rfl inG9 35 (by decide) nq_141 rfl dX9_which_105 ?_
  refine ww_iload C 5 rfl dX9_which_108 ?_
  refine ww_iald C (shc_82 hs) h.1 dX9_which_110 ?_
  have h := h.2
  refine ww_iconst (v := 1) C dX9_which_111 (by decide) ?_
  refine ww_icmp_ne (tgt := 119) C dX9_which_112 (by decide) (fun hc => ?_) (fun hc => ?_)
  · have h := h.1 hc
    refine ww_iconst (v := 0) C dX9_which_119 (by decide) ?_
    exact w_X9_which_J120 (Q := Q) (a1 := a1) C hr hlk hs hK136 hRc h
  · have h := h.2 hc
    refine ww_iconst (v := 1) C dX9_which_115 (by decide) ?_
    refine ww_goto (tgt := 120) C dX9_which_116 (by decide) ?_
    exact w_X9_which_J120 (Q := Q) (a1 := a1) C hr hlk hs hK136 hRc h
set_option maxRecDepth 100000 in
set_option maxHeartbeats 4000000 in
theorem w_X9_which_L48b {p : Program} {l : Launch} {e : Env} {s : State} {m : MethodId} {args : Array Value} {below : List Frame} {meth : Method} {c : Code} {dC : Nat → ClassId} {dI : Nat → Nat → Nat} {cA : Nat → ClassId} {A : Nat → Prop} {al : Nat → Nat} {sh : List Kd} (C : Fx p s m args c cX9_which 7 yX9_which.cls dC dI cA A al) (hr : meth.sig.returnType = some .int) (hlk : meth.locks = false) (hs : ShC sh) {a1 : Int32} {Q : Int32 → St → Prop} {x2 : Int32} {x3 : Int32} {x4 : Int32} {K136 : St → Int32 → Prop} (hK136 : ∀ (σ : St) (x5 : Int32), K136 σ x5 → WW p l e (RM 4) s m args below meth c (MQ below (va_Qi Q (WPost dC dI cA al sh A) A) args s 0 0 A) dC dI cA A 7 0 0 al sh 136 [(0, .ref 61), (1, .int a1), (2, .int x2), (3, .int x3), (4, .int x4), (5, .int x5)] [] σ) {Rc : St → Int32 → Int32 → Prop} (hRc : ∀ (σ : St) (x5 : Int32) (x6 : Int32), Rc σ x5 x6 → WW p l e (RM 4) s m args below meth c (MQ below (va_Qi Q (WPost dC dI cA al sh A) A) args s 0 0 A) dC dI cA A 7 0 0 al sh 48 [(0, .ref 61), (1, .int a1), (2, .int x2), (3, .int x3), (4, .int x4), (5, .int x5), (6, .int x6)] [] σ) {σ : St} {x5 : Int32} {x6 : Int32} (h : m_X9_which_L48b a1 Q x2 x3 x4 K136 Rc σ x5 x6) : WW p l e (RM 4) s m args below meth c (MQ below (va_Qi Q (WPost dC dI cA al sh A) A) args s 0 0 A) dC dI cA A 7 0 0 al sh 48 [(0, .ref 61), (1, .int a1), (2, .int x2), (3, .int x3), (4, .int x4), (5, .int x5), (6, .int x6)] [] σ := by
  unfold m_X9_which_L48b at h
  refine ww_iload C 6 rfl dX9_which_48 ?_
  refine ww_aload_n C 0 rfl dX9_which_50 ?_
  refine ww_getI C (shc_61 hs) rfl inG9 32 (by decide) nq_720 rfl dX9_which_51 ?_
  refine ww_icmp_ge (tgt := 136) C dX9_which_54 (by decide) (fun hc => ?_) (fun hc => ?_)
  · have h := h.1 hc
    refine ww_sub [0, 1, 2, 3, 4, 5] rfl ?_
    exact hK136 _ _ h
  · have h := h.2 hc
    refine ww_iload C 5 rfl dX9_which_57 ?_
    refine ww_if_eq (tgt := 136) C dX9_which_59 (by decide) (fun hc => ?_) (fun hc => ?_)
    · have h := h.1 hc
      refine ww_sub [0, 1, 2, 3, 4, 5] rfl ?_
      exact hK136 _ _ h
    · have h := h.2 hc
      refine ww_aload_n C 0 rfl dX9_which_62 ?_
      refine ww_iconst (v := 0) C dX9_which_63 (by decide) ?_
      refine ww_aload_n C 0 rfl dX9_which_64 ?_
      refine ww_getR C (shc_61 hs) rfl inG9 33 (by decide) nq_139 rfl dX9_which_65 ?_
      refine ww_iload C 6 rfl dX9_which_68 ?_
      refine ww_iald C (shc_80 hs) h.1 dX9_which_70 ?_
      have h := h.2
      refine ww_aload_n C 0 rfl dX9_which_71 ?_
      refine ww_iconst (v := 0) C dX9_which_72 (by decide) ?_
      refine ww_vi (n := 1) (As := [.int 0]) (rest := [.int (σ.1 80 x6.toNatClampNeg), .int 0, .ref 61]) C (c_X9_many hs h) (shc_61 hs) rfl nq_291 nq_292 nq_293 nq_5 nq_294 (by decide +kernel) rfl rfl ⟨Nat.le_of_ble_eq_true rfl, Nat.le_of_ble_eq_true rfl, Nat.le_of_ble_eq_true rfl, Nat.le_of_ble_eq_true rfl⟩ (Nat.le_of_ble_eq_true rfl) dX9_which_73 (fun r73 σ73 h => ?_)
      refine ww_bipush (v := 15) C dX9_which_76 (by decide) ?_
      refine ww_iconst (v := 1) C dX9_which_78 (by decide) ?_
      refine ww_iload C 4 rfl dX9_which_79 ?_
      refine ww_ishl C dX9_which_81 ?_
      refine ww_vv (n := 5) (As := [.int 0, .int (σ.1 80 x6.toNatClampNeg), .int r73, .int 15, .int ((1 : Int32) <<< (x4 &&& 31))]) (rest := []) C (c_X9_watchCell hs h) (shc_61 hs) rfl nq_485 nq_486 nq_487 nq_5 nq_488 (by decide +kernel) rfl rfl ⟨Nat.le_of_ble_eq_true rfl, Nat.le_of_ble_eq_true rfl, Nat.le_of_ble_eq_true rfl, Nat.le_of_ble_eq_true rfl⟩ (Nat.le_of_ble_eq_true rfl) dX9_which_82 (fun σ82 h => ?_)
      refine ww_aload_n C 0 rfl dX9_which_85 ?_
      refine ww_getI C (shc_61 hs) rfl inG9 13 (by decide) nq_477 rfl dX9_which_86 ?_
      refine ww_aload_n C 0 rfl dX9_which_89 ?_
      refine ww_getR C (shc_61 hs) rfl inG9 34 (by decide) nq_140 rfl dX9_which_90 ?_
      refine ww_iload C 6 rfl dX9_which_93 ?_
      refine ww_iald C (shc_81 hs) h.1 dX9_which_95 ?_
      have h := h.2
      refine ww_icmp_ne (tgt := 103) C dX9_which_96 (by decide) (fun hc => ?_) (fun hc => ?_)
      · have h := h.1 hc
        refine ww_iconst (v := 0) C dX9_which_103 (by decide) ?_
        refine ww_sub [0, 1, 2, 3, 4, 6] rfl ?_
        exact w_X9_which_J104 (Q := Q) (a1 := a1) C hr hlk hs hK136 hRc h
      · have h := h.2 hc
        refine ww_iconst (v := 1) C dX9_which_99 (by decide) ?_
        refine ww_goto (tgt := 104) C dX9_which_100 (by decide) ?_
        refine ww_sub [0, 1, 2, 3, 4, 6] rfl ?_
        exact w_X9_which_J104 (Q := Q) (a1 := a1) C hr hlk hs hK136 hRc h
set_option maxRecDepth 100000 in
set_option maxHeartbeats 4000000 in
theorem w_X9_which_L48 {p : Program} {l : Launch} {e : Env} {s : State} {m : MethodId} {args : Array Value} {below : List Frame} {meth : Method} {c : Code} {dC : Nat → ClassId} {dI : Nat → Nat → Nat} {cA : Nat → ClassId} {A : Nat → Prop} {al : Nat → Nat} {sh : List Kd} (C : Fx p s m args c cX9_which 7 yX9_which.cls dC dI cA A al) (hr : meth.sig.returnType = some .int) (hlk : meth.locks = false) (hs : ShC sh) {a1 : Int32} {Q : Int32 → St → Prop} {x2 : Int32} {x3 : Int32} {x4 : Int32} {K136 : St → Int32 → Prop} (hK136 : ∀ (σ : St) (x5 : Int32), K136 σ x5 → WW p l e (RM 4) s m args below meth c (MQ below (va_Qi Q (WPost dC dI cA al sh A) A) args s 0 0 A) dC dI cA A 7 0 0 al sh 136 [(0, .ref 61), (1, .int a1), (2, .int x2), (3, .int x3), (4, .int x4), (5, .int x5)] [] σ) : ∀ (f : Nat) (σ : St) (x5 : Int32) (x6 : Int32), m_X9_which_L48 a1 Q x2 x3 x4 K136 f σ x5 x6 → WW p l e (RM 4) s m args below meth c (MQ below (va_Qi Q (WPost dC dI cA al sh A) A) args s 0 0 A) dC dI cA A 7 0 0 al sh 48 [(0, .ref 61), (1, .int a1), (2, .int x2), (3, .int x3), (4, .int x4), (5, .int x5), (6, .int x6)] [] σ := by
  intro f
  induction f with
  | zero => intro σ x5 x6 h; exact False.elim h
  | succ f ih => intro σ x5 x6 h; exact w_X9_which_L48b (Q := Q) (a1 := a1) C hr hlk hs hK136 ih h
set_option maxRecDepth 100000 in
set_option maxHeartbeats 4000000 in
theorem w_X9_which_J151 {p : Program} {l : Launch} {e : Env} {s : State} {m : MethodId} {args : Array Value} {below : List Frame} {meth : Method} {c : Code} {dC : Nat → ClassId} {dI : Nat → Nat → Nat} {cA : Nat → ClassId} {A : Nat → Prop} {al : Nat → Nat} {sh : List Kd} (C : Fx p s m args c cX9_which 7 yX9_which.cls dC dI cA A al) (hr : meth.sig.returnType = some .int) (hlk : meth.locks = false) (hs : ShC sh) {a1 : Int32} {Q : Int32 → St → Prop} {K171 : St → Int32 → Int32 → Prop} (hK171 : ∀ (σ : St) (x2 : Int32) (x3 : Int32), K171 σ x2 x3 → WW p l e (RM 4) s m args below meth c (MQ below (va_Qi Q (WPost dC dI cA al sh A) A) args s 0 0 A) dC dI cA A 7 0 0 al sh 171 [(1, .int a1), (2, .int x2), (3, .int x3)] [] σ) {Rc : St → Int32 → Int32 → Int32 → Prop} (hRc : ∀ (σ : St) (x2 : Int32) (x3 : Int32) (x4 : Int32), Rc σ x2 x3 x4 → WW p l e (RM 4) s m args below meth c (MQ below (va_Qi Q (WPost dC dI cA al sh A) A) args s 0 0 A) dC dI cA A 7 0 0 al sh 26 [(0, .ref 61), (1, .int a1), (2, .int x2), (3, .int x3), (4, .int x4)] [] σ) {σ : St} {x2 : Int32} {x4 : Int32} {x5 : Int32} {t0 : Int32} (h : m_X9_which_J151 a1 Q K171 Rc σ x2 x4 x5 t0) : WW p l e (RM 4) s m args below meth c (MQ below (va_Qi Q (WPost dC dI cA al sh A) A) args s 0 0 A) dC dI cA A 7 0 0 al sh 151 [(0, .ref 61), (1, .int a1), (2, .int x2), (4, .int x4), (5, .int x5)] [.int t0] σ := by
  unfold m_X9_which_J151 at h
  refine ww_istore_n (lv' := [(3, .int t0), (0, .ref 61), (1, .int a1), (2, .int x2), (4, .int x4), (5, .int x5)]) C dX9_which_151 rfl (by decide) rfl ?_
  refine ww_iload_n C 3 rfl dX9_which_152 ?_
  refine ww_iload C 5 rfl dX9_which_153 ?_
  refine ww_if_eq (tgt := 162) C dX9_which_155 (by decide) (fun hc => ?_) (fun hc => ?_)
  · have h := h.1 hc
    refine ww_iconst (v := 0) C dX9_which_162 (by decide) ?_
    refine ww_iadd C dX9_which_163 ?_
    refine ww_nmI h (fun y164 h => ?_)
    refine ww_istore_n (lv' := [(2, .int y164), (3, .int t0), (0, .ref 61), (1, .int a1), (4, .int x4), (5, .int x5)]) C dX9_which_164 rfl (by decide) rfl ?_
    refine ww_iinc (v := (x4 + 1)) (lv' := [(4, .int (x4 + 1)), (2, .int y164), (3, .int t0), (0, .ref 61), (1, .int a1), (5, .int x5)]) C 4 rfl dX9_which_165 rfl (by decide) rfl ?_
    refine ww_goto (tgt := 26) C dX9_which_168 (by decide) ?_
    refine ww_sub [3, 4, 1, 2, 0] rfl ?_
    exact hRc _ _ _ _ h
  · have h := h.2 hc
    refine ww_iconst (v := 1) C dX9_which_158 (by decide) ?_
    refine ww_goto (tgt := 163) C dX9_which_159 (by decide) ?_
    refine ww_iadd C dX9_which_163 ?_
    refine ww_nmI h (fun y164 h => ?_)
    refine ww_istore_n (lv' := [(2, .int y164), (3, .int t0), (0, .ref 61), (1, .int a1), (4, .int x4), (5, .int x5)]) C dX9_which_164 rfl (by decide) rfl ?_
    refine ww_iinc (v := (x4 + 1)) (lv' := [(4, .int (x4 + 1)), (2, .int y164), (3, .int t0), (0, .ref 61), (1, .int a1), (5, .int x5)]) C 4 rfl dX9_which_165 rfl (by decide) rfl ?_
    refine ww_goto (tgt := 26) C dX9_which_168 (by decide) ?_
    refine ww_sub [3, 4, 1, 2, 0] rfl ?_
    exact hRc _ _ _ _ h
set_option maxRecDepth 100000 in
set_option maxHeartbeats 4000000 in
theorem w_X9_which_J150 {p : Program} {l : Launch} {e : Env} {s : State} {m : MethodId} {args : Array Value} {below : List Frame} {meth : Method} {c : Code} {dC : Nat → ClassId} {dI : Nat → Nat → Nat} {cA : Nat → ClassId} {A : Nat → Prop} {al : Nat → Nat} {sh : List Kd} (C : Fx p s m args c cX9_which 7 yX9_which.cls dC dI cA A al) (hr : meth.sig.returnType = some .int) (hlk : meth.locks = false) (hs : ShC sh) {a1 : Int32} {Q : Int32 → St → Prop} {K171 : St → Int32 → Int32 → Prop} (hK171 : ∀ (σ : St) (x2 : Int32) (x3 : Int32), K171 σ x2 x3 → WW p l e (RM 4) s m args below meth c (MQ below (va_Qi Q (WPost dC dI cA al sh A) A) args s 0 0 A) dC dI cA A 7 0 0 al sh 171 [(1, .int a1), (2, .int x2), (3, .int x3)] [] σ) {Rc : St → Int32 → Int32 → Int32 → Prop} (hRc : ∀ (σ : St) (x2 : Int32) (x3 : Int32) (x4 : Int32), Rc σ x2 x3 x4 → WW p l e (RM 4) s m args below meth c (MQ below (va_Qi Q (WPost dC dI cA al sh A) A) args s 0 0 A) dC dI cA A 7 0 0 al sh 26 [(0, .ref 61), (1, .int a1), (2, .int x2), (3, .int x3), (4, .int x4)] [] σ) {σ : St} {x2 : Int32} {x3 : Int32} {x4 : Int32} {x5 : Int32} (h : m_X9_which_J150 a1 Q K171 Rc σ x2 x3 x4 x5) : WW p l e (RM 4) s m args below meth c (MQ below (va_Qi Q (WPost dC dI cA al sh A) A) args s 0 0 A) dC dI cA A 7 0 0 al sh 150 [(0, .ref 61), (1, .int a1), (2, .int x2), (3, .int x3), (4, .int x4), (5, .int x5)] [] σ := by
  unfold m_X9_which_J150 at h
  refine ww_iload_n C 3 rfl dX9_which_150 ?_
  refine ww_sub [0, 1, 2, 4, 5] rfl ?_
  exact w_X9_which_J151 (Q := Q) (a1 := a1) C hr hlk hs hK171 hRc h
set_option maxRecDepth 100000 in
set_option maxHeartbeats 4000000 in
theorem w_X9_which_J136 {p : Program} {l : Launch} {e : Env} {s : State} {m : MethodId} {args : Array Value} {below : List Frame} {meth : Method} {c : Code} {dC : Nat → ClassId} {dI : Nat → Nat → Nat} {cA : Nat → ClassId} {A : Nat → Prop} {al : Nat → Nat} {sh : List Kd} (C : Fx p s m args c cX9_which 7 yX9_which.cls dC dI cA A al) (hr : meth.sig.returnType = some .int) (hlk : meth.locks = false) (hs : ShC sh) {a1 : Int32} {Q : Int32 → St → Prop} {K171 : St → Int32 → Int32 → Prop} (hK171 : ∀ (σ : St) (x2 : Int32) (x3 : Int32), K171 σ x2 x3 → WW p l e (RM 4) s m args below meth c (MQ below (va_Qi Q (WPost dC dI cA al sh A) A) args s 0 0 A) dC dI cA A 7 0 0 al sh 171 [(1, .int a1), (2, .int x2), (3, .int x3)] [] σ) {Rc : St → Int32 → Int32 → Int32 → Prop} (hRc : ∀ (σ : St) (x2 : Int32) (x3 : Int32) (x4 : Int32), Rc σ x2 x3 x4 → WW p l e (RM 4) s m args below meth c (MQ below (va_Qi Q (WPost dC dI cA al sh A) A) args s 0 0 A) dC dI cA A 7 0 0 al sh 26 [(0, .ref 61), (1, .int a1), (2, .int x2), (3, .int x3), (4, .int x4)] [] σ) {σ : St} {x2 : Int32} {x3 : Int32} {x4 : Int32} {x5 : Int32} (h : m_X9_which_J136 a1 Q K171 Rc σ x2 x3 x4 x5) : WW p l e (RM 4) s m args below meth c (MQ below (va_Qi Q (WPost dC dI cA al sh A) A) args s 0 0 A) dC dI cA A 7 0 0 al sh 136 [(0, .ref 61), (1, .int a1), (2, .int x2), (3, .int x3), (4, .int x4), (5, .int x5)] [] σ := by
  unfold m_X9_which_J136 at h
  refine ww_iload C 5 rfl dX9_which_136 ?_
  refine ww_if_eq (tgt := 150) C dX9_which_138 (by decide) (fun hc => ?_) (fun hc => ?_)
  · have h := h.1 hc
    exact w_X9_which_J150 (Q := Q) (a1 := a1) C hr hlk hs hK171 hRc h
  · have h := h.2 hc
    refine ww_iload_n C 2 rfl dX9_which_141 ?_
    refine ww_if_ne (tgt := 150) C dX9_which_142 (by decide) (fun hc => ?_) (fun hc => ?_)
    · have h := h.1 hc
      exact w_X9_which_J150 (Q := Q) (a1 := a1) C hr hlk hs hK171 hRc h
    · have h := h.2 hc
      refine ww_iload C 4 rfl dX9_which_145 ?_
      refine ww_goto (tgt := 151) C dX9_which_147 (by decide) ?_
      refine ww_sub [0, 1, 2, 4, 5] rfl ?_
      exact w_X9_which_J151 (Q := Q) (a1 := a1) C hr hlk hs hK171 hRc h
set_option maxRecDepth 100000 in
set_option maxHeartbeats 4000000 in
theorem w_X9_which_L26b {p : Program} {l : Launch} {e : Env} {s : State} {m : MethodId} {args : Array Value} {below : List Frame} {meth : Method} {c : Code} {dC : Nat → ClassId} {dI : Nat → Nat → Nat} {cA : Nat → ClassId} {A : Nat → Prop} {al : Nat → Nat} {sh : List Kd} (C : Fx p s m args c cX9_which 7 yX9_which.cls dC dI cA A al) (hr : meth.sig.returnType = some .int) (hlk : meth.locks = false) (hs : ShC sh) {a1 : Int32} {Q : Int32 → St → Prop} {K171 : St → Int32 → Int32 → Prop} (hK171 : ∀ (σ : St) (x2 : Int32) (x3 : Int32), K171 σ x2 x3 → WW p l e (RM 4) s m args below meth c (MQ below (va_Qi Q (WPost dC dI cA al sh A) A) args s 0 0 A) dC dI cA A 7 0 0 al sh 171 [(1, .int a1), (2, .int x2), (3, .int x3)] [] σ) {Rc : St → Int32 → Int32 → Int32 → Prop} (hRc : ∀ (σ : St) (x2 : Int32) (x3 : Int32) (x4 : Int32), Rc σ x2 x3 x4 → WW p l e (RM 4) s m args below meth c (MQ below (va_Qi Q (WPost dC dI cA al sh A) A) args s 0 0 A) dC dI cA A 7 0 0 al sh 26 [(0, .ref 61), (1, .int a1), (2, .int x2), (3, .int x3), (4, .int x4)] [] σ) {σ : St} {x2 : Int32} {x3 : Int32} {x4 : Int32} (h : m_X9_which_L26b a1 Q K171 Rc σ x2 x3 x4) : WW p l e (RM 4) s m args below meth c (MQ below (va_Qi Q (WPost dC dI cA al sh A) A) args s 0 0 A) dC dI cA A 7 0 0 al sh 26 [(0, .ref 61), (1, .int a1), (2, .int x2), (3, .int x3), (4, .int x4)] [] σ := by
  unfold m_X9_which_L26b at h
  refine ww_iload C 4 rfl dX9_which_26 ?_
  refine ww_aload_n C 0 rfl dX9_which_28 ?_
  refine ww_iconst (v := 0) C dX9_which_29 (by decide) ?_
  refine ww_vi (n := 1) (As := [.int 0]) (rest := [.int x4]) C (c_X9_many hs h) (shc_61 hs) rfl nq_291 nq_292 nq_293 nq_5 nq_294 (by decide +kernel) rfl rfl ⟨Nat.le_of_ble_eq_true rfl, Nat.le_of_ble_eq_true rfl, Nat.le_of_ble_eq_true rfl, Nat.le_of_ble_eq_true rfl⟩ (Nat.le_of_ble_eq_true rfl) dX9_which_30 (fun r30 σ30 h => ?_)
  refine ww_icmp_ge (tgt := 171) C dX9_which_33 (by decide) (fun hc => ?_) (fun hc => ?_)
  · have h := h.1 hc
    refine ww_sub [1, 2, 3] rfl ?_
    exact hK171 _ _ _ h
  · have h := h.2 hc
    refine ww_aload_n C 0 rfl dX9_which_36 ?_
    refine ww_iconst (v := 0) C dX9_which_37 (by decide) ?_
    refine ww_iload C 4 rfl dX9_which_38 ?_
    refine ww_vi (n := 2) (As := [.int 0, .int x4]) (rest := []) C (c_X9_isTouch hs h) (shc_61 hs) rfl nq_493 nq_494 nq_495 nq_5 nq_496 (by decide +kernel) rfl rfl ⟨Nat.le_of_ble_eq_true rfl, Nat.le_of_ble_eq_true rfl, Nat.le_of_ble_eq_true rfl, Nat.le_of_ble_eq_true rfl⟩ (Nat.le_of_ble_eq_true rfl) dX9_which_40 (fun r40 σ40 h => ?_)
    refine ww_istore (lv' := [(5, .int r40), (0, .ref 61), (1, .int a1), (2, .int x2), (3, .int x3), (4, .int x4)]) C dX9_which_43 (by decide) rfl ?_
    refine ww_iconst (v := 0) C dX9_which_45 (by decide) ?_
    refine ww_istore (lv' := [(6, .int 0), (5, .int r40), (0, .ref 61), (1, .int a1), (2, .int x2), (3, .int x3), (4, .int x4)]) C dX9_which_46 (by decide) rfl ?_
    refine ww_sub [2, 3, 4, 5, 6, 1, 0] rfl ?_
    obtain ⟨f, h⟩ := h
    exact w_X9_which_L48 (Q := Q) (a1 := a1) C hr hlk hs (fun σ x5 h => by exact w_X9_which_J136 (Q := Q) (a1 := a1) C hr hlk hs hK171 hRc h) f _ _ _ h
set_option maxRecDepth 100000 in
set_option maxHeartbeats 4000000 in
theorem w_X9_which_L26 {p : Program} {l : Launch} {e : Env} {s : State} {m : MethodId} {args : Array Value} {below : List Frame} {meth : Method} {c : Code} {dC : Nat → ClassId} {dI : Nat → Nat → Nat} {cA : Nat → ClassId} {A : Nat → Prop} {al : Nat → Nat} {sh : List Kd} (C : Fx p s m args c cX9_which 7 yX9_which.cls dC dI cA A al) (hr : meth.sig.returnType = some .int) (hlk : meth.locks = false) (hs : ShC sh) {a1 : Int32} {Q : Int32 → St → Prop} {K171 : St → Int32 → Int32 → Prop} (hK171 : ∀ (σ : St) (x2 : Int32) (x3 : Int32), K171 σ x2 x3 → WW p l e (RM 4) s m args below meth c (MQ below (va_Qi Q (WPost dC dI cA al sh A) A) args s 0 0 A) dC dI cA A 7 0 0 al sh 171 [(1, .int a1), (2, .int x2), (3, .int x3)] [] σ) : ∀ (f : Nat) (σ : St) (x2 : Int32) (x3 : Int32) (x4 : Int32), m_X9_which_L26 a1 Q K171 f σ x2 x3 x4 → WW p l e (RM 4) s m args below meth c (MQ below (va_Qi Q (WPost dC dI cA al sh A) A) args s 0 0 A) dC dI cA A 7 0 0 al sh 26 [(0, .ref 61), (1, .int a1), (2, .int x2), (3, .int x3), (4, .int x4)] [] σ := by
  intro f
  induction f with
  | zero => intro σ x2 x3 x4 h; exact False.elim h
  | succ f ih => intro σ x2 x3 x4 h; exact w_X9_which_L26b (Q := Q) (a1 := a1) C hr hlk hs hK171 ih h
set_option maxRecDepth 100000 in
set_option maxHeartbeats 4000000 in
theorem w_X9_which_J171 {p : Program} {l : Launch} {e : Env} {s : State} {m : MethodId} {args : Array Value} {below : List Frame} {meth : Method} {c : Code} {dC : Nat → ClassId} {dI : Nat → Nat → Nat} {cA : Nat → ClassId} {A : Nat → Prop} {al : Nat → Nat} {sh : List Kd} (C : Fx p s m args c cX9_which 7 yX9_which.cls dC dI cA A al) (hr : meth.sig.returnType = some .int) (hlk : meth.locks = false) (hs : ShC sh) {a1 : Int32} {Q : Int32 → St → Prop} {σ : St} {x2 : Int32} {x3 : Int32} (h : m_X9_which_J171 a1 Q σ x2 x3) : WW p l e (RM 4) s m args below meth c (MQ below (va_Qi Q (WPost dC dI cA al sh A) A) args s 0 0 A) dC dI cA A 7 0 0 al sh 171 [(1, .int a1), (2, .int x2), (3, .int x3)] [] σ := by
  unfold m_X9_which_J171 at h
  refine ww_iload_n C 0 rfl dX9_which_171 ?_
  refine ww_if_ne (tgt := 179) C dX9_which_172 (by decide) (fun hc => ?_) (fun hc => ?_)
  · have h := h.1 hc
    refine ww_iload_n C 2 rfl dX9_which_179 ?_
    exact ww_iret C hr hlk h dX9_which_180
  · have h := h.2 hc
    refine ww_iload_n C 1 rfl dX9_which_175 ?_
    refine ww_goto (tgt := 180) C dX9_which_176 (by decide) ?_
    exact ww_iret C hr hlk h dX9_which_180
set_option maxRecDepth 100000 in
set_option maxHeartbeats 4000000 in
theorem c_X9_which {l : Launch} {dC : Nat → ClassId} {dI : Nat → Nat → Nat} {cA : Nat → ClassId} {al : Nat → Nat} {sh : List Kd} (hs : ShC sh) {σ : St} {a1 : Int32} {Q : Int32 → St → Prop} (h : m_X9_which σ a1 Q) : ∀ sz, Met l yX9_which (wd yX9_which cX9_which 7 (some .int)) (RM 4) (va_Pc ([.ref 61, .int a1].map (cv al)) (WPre dC dI cA al sh σ sz)) (va_Qi Q (WPost dC dI cA al sh (AW al sh sz)) (AW al sh sz)) 0 0 (AW al sh sz) := by
  refine ww_met (Qc := fun A => va_Qi Q (WPost dC dI cA al sh A) A) (by decide +kernel) (Nat.le_of_ble_eq_true rfl) (fun p e s m args below meth c A C hr hlk => ?_)
  show WW p l e (RM 4) s m args below meth c (MQ below (va_Qi Q (WPost dC dI cA al sh A) A) args s 0 0 A) dC dI cA A 7 0 0 al sh 0 [(0, .ref 61), (1, .int a1)] [] σ
  unfold m_X9_which at h
  refine ww_iload_n C 1 rfl dX9_which_0 ?_
  refine ww_i2l C dX9_which_1 ?_
  refine ww_lconst (v := 0) C dX9_which_2 (by decide) ?_
  refine ww_lconst (v := 1) C dX9_which_3 (by decide) ?_
  refine ww_si (n := 3) (As := [.long (a1.toInt64), .long 0, .long 1]) (rest := []) C (c_X9_in hs h) nq_159 nq_160 nq_5 nq_161 (by decide +kernel) rfl rfl ⟨Nat.le_of_ble_eq_true rfl, Nat.le_of_ble_eq_true rfl, Nat.le_of_ble_eq_true rfl, Nat.le_of_ble_eq_true rfl⟩ (Nat.le_of_ble_eq_true rfl) dX9_which_4 (fun r4 σ4 h => ?_)
  refine ww_if_ne (tgt := 13) C dX9_which_7 (by decide) (fun hc => ?_) (fun hc => ?_)
  · have h := h.1 hc
    refine ww_aload_n C 0 rfl dX9_which_13 ?_
    refine ww_iconst (v := 0) C dX9_which_14 (by decide) ?_
    refine ww_vv (n := 1) (As := [.int 0]) (rest := []) C (c_X9_findHeld hs h) (shc_61 hs) rfl nq_323 nq_324 nq_325 nq_5 nq_326 (by decide +kernel) rfl rfl ⟨Nat.le_of_ble_eq_true rfl, Nat.le_of_ble_eq_true rfl, Nat.le_of_ble_eq_true rfl, Nat.le_of_ble_eq_true rfl⟩ (Nat.le_of_ble_eq_true rfl) dX9_which_15 (fun σ15 h => ?_)
    refine ww_iconst (v := 0) C dX9_which_18 (by decide) ?_
    refine ww_istore_n (lv' := [(2, .int 0), (0, .ref 61), (1, .int a1)]) C dX9_which_19 rfl (by decide) rfl ?_
    refine ww_bipush (v := -9) C dX9_which_20 (by decide) ?_
    refine ww_istore_n (lv' := [(3, .int (-9)), (2, .int 0), (0, .ref 61), (1, .int a1)]) C dX9_which_22 rfl (by decide) rfl ?_
    refine ww_iconst (v := 0) C dX9_which_23 (by decide) ?_
    refine ww_istore (lv' := [(4, .int 0), (3, .int (-9)), (2, .int 0), (0, .ref 61), (1, .int a1)]) C dX9_which_24 (by decide) rfl ?_
    refine ww_sub [3, 4, 2, 1, 0] rfl ?_
    obtain ⟨f, h⟩ := h
    exact w_X9_which_L26 (Q := Q) (a1 := a1) C hr hlk hs (fun σ x2 x3 h => by exact w_X9_which_J171 (Q := Q) (a1 := a1) C hr hlk hs h) f _ _ _ _ h
  · have h := h.2 hc
    refine ww_bipush (v := -2) C dX9_which_10 (by decide) ?_
    exact ww_iret C hr hlk h dX9_which_12
set_option maxRecDepth 100000 in
set_option maxHeartbeats 4000000 in
theorem w_X9_factorial_L4b {p : Program} {l : Launch} {e : Env} {s : State} {m : MethodId} {args : Array Value} {below : List Frame} {meth : Method} {c : Code} {dC : Nat → ClassId} {dI : Nat → Nat → Nat} {cA : Nat → ClassId} {A : Nat → Prop} {al : Nat → Nat} {sh : List Kd} (C : Fx p s m args c cX9_factorial 3 yX9_factorial.cls dC dI cA A al) (hr : meth.sig.returnType = some .int) (hlk : meth.locks = false) (hs : ShC sh) {a0 : Int32} {Q : Int32 → St → Prop} {K19 : St → Int32 → Prop} (hK19 : ∀ (σ : St) (x1 : Int32), K19 σ x1 → WW p l e (RM 0) s m args below meth c (MQ below (va_Qi Q (WPost dC dI cA al sh A) A) args s 0 0 A) dC dI cA A 3 0 0 al sh 19 [(1, .int x1)] [] σ) {Rc : St → Int32 → Int32 → Prop} (hRc : ∀ (σ : St) (x1 : Int32) (x2 : Int32), Rc σ x1 x2 → WW p l e (RM 0) s m args below meth c (MQ below (va_Qi Q (WPost dC dI cA al sh A) A) args s 0 0 A) dC dI cA A 3 0 0 al sh 4 [(0, .int a0), (1, .int x1), (2, .int x2)] [] σ) {σ : St} {x1 : Int32} {x2 : Int32} (h : m_X9_factorial_L4b a0 Q K19 Rc σ x1 x2) : WW p l e (RM 0) s m args below meth c (MQ below (va_Qi Q (WPost dC dI cA al sh A) A) args s 0 0 A) dC dI cA A 3 0 0 al sh 4 [(0, .int a0), (1, .int x1), (2, .int x2)] [] σ := by
  unfold m_X9_factorial_L4b at h
  refine ww_iload_n C 2 rfl dX9_factorial_4 ?_
  refine ww_iload_n C 0 rfl dX9_factorial_5 ?_
  refine ww_icmp_gt (tgt := 19) C dX9_factorial_6 (by decide) (fun hc => ?_) (fun hc => ?_)
  · have h := h.1 hc
    refine ww_sub [1] rfl ?_
    exact hK19 _ _ h
  · have h := h.2 hc
    refine ww_iload_n C 1 rfl dX9_factorial_9 ?_
    refine ww_iload_n C 2 rfl dX9_factorial_10 ?_
    refine ww_imul C dX9_factorial_11 ?_
    refine ww_nmI h (fun y12 h => ?_)
    refine ww_istore_n (lv' := [(1, .int y12), (0, .int a0), (2, .int x2)]) C dX9_factorial_12 rfl (by decide) rfl ?_
    refine ww_iinc (v := (x2 + 1)) (lv' := [(2, .int (x2 + 1)), (1, .int y12), (0, .int a0)]) C 2 rfl dX9_factorial_13 rfl (by decide) rfl ?_
    refine ww_goto (tgt := 4) C dX9_factorial_16 (by decide) ?_
    refine ww_sub [2, 1, 0] rfl ?_
    exact hRc _ _ _ h
set_option maxRecDepth 100000 in
set_option maxHeartbeats 4000000 in
theorem w_X9_factorial_L4 {p : Program} {l : Launch} {e : Env} {s : State} {m : MethodId} {args : Array Value} {below : List Frame} {meth : Method} {c : Code} {dC : Nat → ClassId} {dI : Nat → Nat → Nat} {cA : Nat → ClassId} {A : Nat → Prop} {al : Nat → Nat} {sh : List Kd} (C : Fx p s m args c cX9_factorial 3 yX9_factorial.cls dC dI cA A al) (hr : meth.sig.returnType = some .int) (hlk : meth.locks = false) (hs : ShC sh) {a0 : Int32} {Q : Int32 → St → Prop} {K19 : St → Int32 → Prop} (hK19 : ∀ (σ : St) (x1 : Int32), K19 σ x1 → WW p l e (RM 0) s m args below meth c (MQ below (va_Qi Q (WPost dC dI cA al sh A) A) args s 0 0 A) dC dI cA A 3 0 0 al sh 19 [(1, .int x1)] [] σ) : ∀ (f : Nat) (σ : St) (x1 : Int32) (x2 : Int32), m_X9_factorial_L4 a0 Q K19 f σ x1 x2 → WW p l e (RM 0) s m args below meth c (MQ below (va_Qi Q (WPost dC dI cA al sh A) A) args s 0 0 A) dC dI cA A 3 0 0 al sh 4 [(0, .int a0), (1, .int x1), (2, .int x2)] [] σ := by
  intro f
  induction f with
  | zero => intro σ x1 x2 h; exact False.elim h
  | succ f ih => intro σ x1 x2 h; exact w_X9_factorial_L4b (Q := Q) (a0 := a0) C hr hlk hs hK19 ih h
set_option maxRecDepth 100000 in
set_option maxHeartbeats 4000000 in
theorem w_X9_factorial_J19 {p : Program} {l : Launch} {e : Env} {s : State} {m : MethodId} {args : Array Value} {below : List Frame} {meth : Method} {c : Code} {dC : Nat → ClassId} {dI : Nat → Nat → Nat} {cA : Nat → ClassId} {A : Nat → Prop} {al : Nat → Nat} {sh : List Kd} (C : Fx p s m args c cX9_factorial 3 yX9_factorial.cls dC dI cA A al) (hr : meth.sig.returnType = some .int) (hlk : meth.locks = false) (hs : ShC sh) {a0 : Int32} {Q : Int32 → St → Prop} {σ : St} {x1 : Int32} (h : m_X9_factorial_J19 a0 Q σ x1) : WW p l e (RM 0) s m args below meth c (MQ below (va_Qi Q (WPost dC dI cA al sh A) A) args s 0 0 A) dC dI cA A 3 0 0 al sh 19 [(1, .int x1)] [] σ := by
  unfold m_X9_factorial_J19 at h
  refine ww_iload_n C 0 rfl dX9_factorial_19 ?_
  exact ww_iret C hr hlk h dX9_factorial_20
set_option maxRecDepth 100000 in
set_option maxHeartbeats 4000000 in
theorem c_X9_factorial {l : Launch} {dC : Nat → ClassId} {dI : Nat → Nat → Nat} {cA : Nat → ClassId} {al : Nat → Nat} {sh : List Kd} (hs : ShC sh) {σ : St} {a0 : Int32} {Q : Int32 → St → Prop} (h : m_X9_factorial σ a0 Q) : ∀ sz, Met l yX9_factorial (wd yX9_factorial cX9_factorial 3 (some .int)) (RM 0) (va_Pc ([.int a0].map (cv al)) (WPre dC dI cA al sh σ sz)) (va_Qi Q (WPost dC dI cA al sh (AW al sh sz)) (AW al sh sz)) 0 0 (AW al sh sz) := by
  refine ww_met (Qc := fun A => va_Qi Q (WPost dC dI cA al sh A) A) (by decide +kernel) (Nat.le_of_ble_eq_true rfl) (fun p e s m args below meth c A C hr hlk => ?_)
  show WW p l e (RM 0) s m args below meth c (MQ below (va_Qi Q (WPost dC dI cA al sh A) A) args s 0 0 A) dC dI cA A 3 0 0 al sh 0 [(0, .int a0)] [] σ
  unfold m_X9_factorial at h
  refine ww_iconst (v := 1) C dX9_factorial_0 (by decide) ?_
  refine ww_istore_n (lv' := [(1, .int 1), (0, .int a0)]) C dX9_factorial_1 rfl (by decide) rfl ?_
  refine ww_iconst (v := 2) C dX9_factorial_2 (by decide) ?_
  refine ww_istore_n (lv' := [(2, .int 2), (1, .int 1), (0, .int a0)]) C dX9_factorial_3 rfl (by decide) rfl ?_
  refine ww_sub [2, 1, 0] rfl ?_
  obtain ⟨f, h⟩ := h
  exact w_X9_factorial_L4 (Q := Q) (a0 := a0) C hr hlk hs (fun σ x1 h => by exact w_X9_factorial_J19 (Q := Q) (a0 := a0) C hr hlk hs h) f _ _ _ h
set_option maxRecDepth 100000 in
set_option maxHeartbeats 4000000 in
theorem w_X9_common_L13b {p : Program} {l : Launch} {e : Env} {s : State} {m : MethodId} {args : Array Value} {below : List Frame} {meth : Method} {c : Code} {dC : Nat → ClassId} {dI : Nat → Nat → Nat} {cA : Nat → ClassId} {A : Nat → Prop} {al : Nat → Nat} {sh : List Kd} (C : Fx p s m args c cX9_common 5 yX9_common.cls dC dI cA A al) (hr : meth.sig.returnType = some .int) (hlk : meth.locks = false) (hs : ShC sh) {a0 : Int32} {a1 : Int32} {Q : Int32 → St → Prop} {K30 : St → Int32 → Prop} (hK30 : ∀ (σ : St) (x2 : Int32), K30 σ x2 → WW p l e (RM 0) s m args below meth c (MQ below (va_Qi Q (WPost dC dI cA al sh A) A) args s 0 0 A) dC dI cA A 5 0 0 al sh 30 [(2, .int x2)] [] σ) {Rc : St → Int32 → Int32 → Prop} (hRc : ∀ (σ : St) (x2 : Int32) (x3 : Int32), Rc σ x2 x3 → WW p l e (RM 0) s m args below meth c (MQ below (va_Qi Q (WPost dC dI cA al sh A) A) args s 0 0 A) dC dI cA A 5 0 0 al sh 13 [(2, .int x2), (3, .int x3)] [] σ) {σ : St} {x2 : Int32} {x3 : Int32} (h : m_X9_common_L13b a0 a1 Q K30 Rc σ x2 x3) : WW p l e (RM 0) s m args below meth c (MQ below (va_Qi Q (WPost dC dI cA al sh A) A) args s 0 0 A) dC dI cA A 5 0 0 al sh 13 [(2, .int x2), (3, .int x3)] [] σ := by
  unfold m_X9_common_L13b at h
  refine ww_iload_n C 1 rfl dX9_common_13 ?_
  refine ww_if_eq (tgt := 30) C dX9_common_14 (by decide) (fun hc => ?_) (fun hc => ?_)
  · have h := h.1 hc
    refine ww_sub [0] rfl ?_
    exact hK30 _ _ h
  · have h := h.2 hc
    refine ww_iload_n C 0 rfl dX9_common_17 ?_
    refine ww_iload_n C 1 rfl dX9_common_18 ?_
    refine ww_irem C dX9_common_19 h.1 ?_
    have h := h.2
    refine ww_nmI h (fun y20 h => ?_)
    refine ww_istore (lv' := [(4, .int y20), (2, .int x2), (3, .int x3)]) C dX9_common_20 (by decide) rfl ?_
    refine ww_iload_n C 2 rfl dX9_common_22 ?_
    refine ww_istore_n (lv' := [(2, .int x3), (4, .int y20), (3, .int x3)]) C dX9_common_23 rfl (by decide) rfl ?_
    refine ww_iload C 1 rfl dX9_common_24 ?_
    refine ww_istore_n (lv' := [(3, .int y20), (2, .int x3), (4, .int y20)]) C dX9_common_26 rfl (by decide) rfl ?_
    refine ww_goto (tgt := 13) C dX9_common_27 (by decide) ?_
    refine ww_sub [1, 0] rfl ?_
    exact hRc _ _ _ h
set_option maxRecDepth 100000 in
set_option maxHeartbeats 4000000 in
theorem w_X9_common_L13 {p : Program} {l : Launch} {e : Env} {s : State} {m : MethodId} {args : Array Value} {below : List Frame} {meth : Method} {c : Code} {dC : Nat → ClassId} {dI : Nat → Nat → Nat} {cA : Nat → ClassId} {A : Nat → Prop} {al : Nat → Nat} {sh : List Kd} (C : Fx p s m args c cX9_common 5 yX9_common.cls dC dI cA A al) (hr : meth.sig.returnType = some .int) (hlk : meth.locks = false) (hs : ShC sh) {a0 : Int32} {a1 : Int32} {Q : Int32 → St → Prop} {K30 : St → Int32 → Prop} (hK30 : ∀ (σ : St) (x2 : Int32), K30 σ x2 → WW p l e (RM 0) s m args below meth c (MQ below (va_Qi Q (WPost dC dI cA al sh A) A) args s 0 0 A) dC dI cA A 5 0 0 al sh 30 [(2, .int x2)] [] σ) : ∀ (f : Nat) (σ : St) (x2 : Int32) (x3 : Int32), m_X9_common_L13 a0 a1 Q K30 f σ x2 x3 → WW p l e (RM 0) s m args below meth c (MQ below (va_Qi Q (WPost dC dI cA al sh A) A) args s 0 0 A) dC dI cA A 5 0 0 al sh 13 [(2, .int x2), (3, .int x3)] [] σ := by
  intro f
  induction f with
  | zero => intro σ x2 x3 h; exact False.elim h
  | succ f ih => intro σ x2 x3 h; exact w_X9_common_L13b (Q := Q) (a0 := a0) (a1 := a1) C hr hlk hs hK30 ih h
set_option maxRecDepth 100000 in
set_option maxHeartbeats 4000000 in
theorem w_X9_common_J30 {p : Program} {l : Launch} {e : Env} {s : State} {m : MethodId} {args : Array Value} {below : List Frame} {meth : Method} {c : Code} {dC : Nat → ClassId} {dI : Nat → Nat → Nat} {cA : Nat → ClassId} {A : Nat → Prop} {al : Nat → Nat} {sh : List Kd} (C : Fx p s m args c cX9_common 5 yX9_common.cls dC dI cA A al) (hr : meth.sig.returnType = some .int) (hlk : meth.locks = false) (hs : ShC sh) {a0 : Int32} {a1 : Int32} {Q : Int32 → St → Prop} {σ : St} {x2 : Int32} (h : m_X9_common_J30 a0 a1 Q σ x2) : WW p l e (RM 0) s m args below meth c (MQ below (va_Qi Q (WPost dC dI cA al sh A) A) args s 0 0 A) dC dI cA A 5 0 0 al sh 30 [(2, .int x2)] [] σ := by
  unfold m_X9_common_J30 at h
  refine ww_iload_n C 0 rfl dX9_common_30 ?_
  exact ww_iret C hr hlk h dX9_common_31
set_option maxRecDepth 100000 in
set_option maxHeartbeats 4000000 in
theorem w_X9_common_J10 {p : Program} {l : Launch} {e : Env} {s : State} {m : MethodId} {args : Array Value} {below : List Frame} {meth : Method} {c : Code} {dC : Nat → ClassId} {dI : Nat → Nat → Nat} {cA : Nat → ClassId} {A : Nat → Prop} {al : Nat → Nat} {sh : List Kd} (C : Fx p s m args c cX9_common 5 yX9_common.cls dC dI cA A al) (hr : meth.sig.returnType = some .int) (hlk : meth.locks = false) (hs : ShC sh) {a0 : Int32} {a1 : Int32} {Q : Int32 → St → Prop} {σ : St} {t0 : Int32} (h : m_X9_common_J10 a0 a1 Q σ t0) : WW p l e (RM 0) s m args below meth c (MQ below (va_Qi Q (WPost dC dI cA al sh A) A) args s 0 0 A) dC dI cA A 5 0 0 al sh 10 [(1, .int a1)] [.int t0] σ := by
  unfold m_X9_common_J10 at h
  refine ww_istore_n (lv' := [(2, .int t0), (1, .int a1)]) C dX9_common_10 rfl (by decide) rfl ?_
  refine ww_iload_n C 1 rfl dX9_common_11 ?_
  refine ww_istore_n (lv' := [(3, .int a1), (2, .int t0), (1, .int a1)]) C dX9_common_12 rfl (by decide) rfl ?_
  refine ww_sub [1, 0] rfl ?_
  obtain ⟨f, h⟩ := h
  exact w_X9_common_L13 (Q := Q) (a0 := a0) (a1 := a1) C hr hlk hs (fun σ x2 h => by exact w_X9_common_J30 (Q := Q) (a0 := a0) (a1 := a1) C hr hlk hs h) f _ _ _ h
set_option maxRecDepth 100000 in
set_option maxHeartbeats 4000000 in
theorem c_X9_common {l : Launch} {dC : Nat → ClassId} {dI : Nat → Nat → Nat} {cA : Nat → ClassId} {al : Nat → Nat} {sh : List Kd} (hs : ShC sh) {σ : St} {a0 : Int32} {a1 : Int32} {Q : Int32 → St → Prop} (h : m_X9_common σ a0 a1 Q) : ∀ sz, Met l yX9_common (wd yX9_common cX9_common 5 (some .int)) (RM 0) (va_Pc ([.int a0, .int a1].map (cv al)) (WPre dC dI cA al sh σ sz)) (va_Qi Q (WPost dC dI cA al sh (AW al sh sz)) (AW al sh sz)) 0 0 (AW al sh sz) := by
  refine ww_met (Qc := fun A => va_Qi Q (WPost dC dI cA al sh A) A) (by decide +kernel) (Nat.le_of_ble_eq_true rfl) (fun p e s m args below meth c A C hr hlk => ?_)
  show WW p l e (RM 0) s m args below meth c (MQ below (va_Qi Q (WPost dC dI cA al sh A) A) args s 0 0 A) dC dI cA A 5 0 0 al sh 0 [(0, .int a0), (1, .int a1)] [] σ
  unfold m_X9_common at h
  refine ww_iload_n C 0 rfl dX9_common_0 ?_
  refine ww_if_ge (tgt := 9) C dX9_common_1 (by decide) (fun hc => ?_) (fun hc => ?_)
  · have h := h.1 hc
    refine ww_iload_n C 0 rfl dX9_common_9 ?_
    refine ww_sub [1] rfl ?_
    exact w_X9_common_J10 (Q := Q) (a0 := a0) (a1 := a1) C hr hlk hs h
  · have h := h.2 hc
    refine ww_iload_n C 0 rfl dX9_common_4 ?_
    refine ww_ineg C dX9_common_5 ?_
    refine ww_goto (tgt := 10) C dX9_common_6 (by decide) ?_
    refine ww_sub [1] rfl ?_
    exact w_X9_common_J10 (Q := Q) (a0 := a0) (a1 := a1) C hr hlk hs h
set_option maxRecDepth 100000 in
set_option maxHeartbeats 4000000 in
theorem w_X9_share_L19b {p : Program} {l : Launch} {e : Env} {s : State} {m : MethodId} {args : Array Value} {below : List Frame} {meth : Method} {c : Code} {dC : Nat → ClassId} {dI : Nat → Nat → Nat} {cA : Nat → ClassId} {A : Nat → Prop} {al : Nat → Nat} {sh : List Kd} (C : Fx p s m args c cX9_share 6 yX9_share.cls dC dI cA A al) (hr : meth.sig.returnType = some .int) (hlk : meth.locks = false) (hs : ShC sh) {a1 : Int32} {a2 : Int32} {Q : Int32 → St → Prop} {K93 : St → Int32 → Prop} (hK93 : ∀ (σ : St) (x3 : Int32), K93 σ x3 → WW p l e (RM 5) s m args below meth c (MQ below (va_Qi Q (WPost dC dI cA al sh A) A) args s 0 0 A) dC dI cA A 6 0 0 al sh 93 [(2, .int a2), (3, .int x3)] [] σ) {Rc : St → Int32 → Int32 → Prop} (hRc : ∀ (σ : St) (x3 : Int32) (x4 : Int32), Rc σ x3 x4 → WW p l e (RM 5) s m args below meth c (MQ below (va_Qi Q (WPost dC dI cA al sh A) A) args s 0 0 A) dC dI cA A 6 0 0 al sh 19 [(0, .ref 61), (1, .int a1), (2, .int a2), (3, .int x3), (4, .int x4)] [] σ) {σ : St} {x3 : Int32} {x4 : Int32} (h : m_X9_share_L19b a1 a2 Q K93 Rc σ x3 x4) : WW p l e (RM 5) s m args below meth c (MQ below (va_Qi Q (WPost dC dI cA al sh A) A) args s 0 0 A) dC dI cA A 6 0 0 al sh 19 [(0, .ref 61), (1, .int a1), (2, .int a2), (3, .int x3), (4, .int x4)] [] σ := by
  unfold m_X9_share_L19b at h
  refine ww_iload C 4 rfl dX9_share_19 ?_
  refine ww_bipush (v := 16) C dX9_share_21 (by decide) ?_
  refine ww_icmp_ge (tgt := 93) C dX9_share_23 (by decide) (fun hc => ?_) (fun hc => ?_)
  · have h := h.1 hc
    refine ww_sub [2, 3] rfl ?_
    exact hK93 _ _ h
  · have h := h.2 hc
    refine ww_iload C 4 rfl dX9_share_26 ?_
    refine ww_iload_n C 1 rfl dX9_share_28 ?_
    refine ww_si (n := 2) (As := [.int x4, .int a1]) (rest := []) C (c_X9_has hs h) nq_244 nq_245 nq_5 nq_246 (by decide +kernel) rfl rfl ⟨Nat.le_of_ble_eq_true rfl, Nat.le_of_ble_eq_true rfl, Nat.le_of_ble_eq_true rfl, Nat.le_of_ble_eq_true rfl⟩ (Nat.le_of_ble_eq_true rfl) dX9_share_29 (fun r29 σ29 h => ?_)
    refine ww_if_ne (tgt := 87) C dX9_share_32 (by decide) (fun hc => ?_) (fun hc => ?_)
    · have h := h.1 hc
      refine ww_iinc (v := (x4 + 1)) (lv' := [(4, .int (x4 + 1)), (0, .ref 61), (1, .int a1), (2, .int a2), (3, .int x3)]) C 4 rfl dX9_share_87 rfl (by decide) rfl ?_
      refine ww_goto (tgt := 19) C dX9_share_90 (by decide) ?_
      refine ww_sub [1, 2, 3, 4, 0] rfl ?_
      exact hRc _ _ _ h
    · have h := h.2 hc
      refine ww_iload C 4 rfl dX9_share_35 ?_
      refine ww_si (n := 1) (As := [.int x4]) (rest := []) C (c_X9_ones hs h) nq_780 nq_781 nq_5 nq_782 (by decide +kernel) rfl rfl ⟨Nat.le_of_ble_eq_true rfl, Nat.le_of_ble_eq_true rfl, Nat.le_of_ble_eq_true rfl, Nat.le_of_ble_eq_true rfl⟩ (Nat.le_of_ble_eq_true rfl) dX9_share_37 (fun r37 σ37 h => ?_)
      refine ww_si (n := 1) (As := [.int r37]) (rest := []) C (c_X9_factorial hs h) nq_783 nq_784 nq_5 nq_785 (by decide +kernel) rfl rfl ⟨Nat.le_of_ble_eq_true rfl, Nat.le_of_ble_eq_true rfl, Nat.le_of_ble_eq_true rfl, Nat.le_of_ble_eq_true rfl⟩ (Nat.le_of_ble_eq_true rfl) dX9_share_40 (fun r40 σ40 h => ?_)
      refine ww_iconst (v := 3) C dX9_share_43 (by decide) ?_
      refine ww_iload C 4 rfl dX9_share_44 ?_
      refine ww_si (n := 1) (As := [.int x4]) (rest := [.int 3, .int r40]) C (c_X9_ones hs h) nq_780 nq_781 nq_5 nq_782 (by decide +kernel) rfl rfl ⟨Nat.le_of_ble_eq_true rfl, Nat.le_of_ble_eq_true rfl, Nat.le_of_ble_eq_true rfl, Nat.le_of_ble_eq_true rfl⟩ (Nat.le_of_ble_eq_true rfl) dX9_share_46 (fun r46 σ46 h => ?_)
      refine ww_isub C dX9_share_49 ?_
      refine ww_si (n := 1) (As := [.int (3 - r46)]) (rest := [.int r40]) C (c_X9_factorial hs h) nq_783 nq_784 nq_5 nq_785 (by decide +kernel) rfl rfl ⟨Nat.le_of_ble_eq_true rfl, Nat.le_of_ble_eq_true rfl, Nat.le_of_ble_eq_true rfl, Nat.le_of_ble_eq_true rfl⟩ (Nat.le_of_ble_eq_true rfl) dX9_share_50 (fun r50 σ50 h => ?_)
      refine ww_imul C dX9_share_53 ?_
      refine ww_nmI h (fun y54 h => ?_)
      refine ww_istore (lv' := [(5, .int y54), (0, .ref 61), (1, .int a1), (2, .int a2), (3, .int x3), (4, .int x4)]) C dX9_share_54 (by decide) rfl ?_
      refine ww_iload_n C 4 rfl dX9_share_56 ?_
      refine ww_iload C 0 rfl dX9_share_57 ?_
      refine ww_aload_n C 1 rfl dX9_share_59 ?_
      refine ww_iconst (v := 0) C dX9_share_60 (by decide) ?_
      refine ww_iload C 5 rfl dX9_share_61 ?_
      refine ww_vi (n := 2) (As := [.int 0, .int x4]) (rest := [.int y54, .int x3]) C (c_X9_flaggedOn hs h) (shc_61 hs) rfl nq_699 nq_700 nq_701 nq_5 nq_702 (by decide +kernel) rfl rfl ⟨Nat.le_of_ble_eq_true rfl, Nat.le_of_ble_eq_true rfl, Nat.le_of_ble_eq_true rfl, Nat.le_of_ble_eq_true rfl⟩ (Nat.le_of_ble_eq_true rfl) dX9_share_63 (fun r63 σ63 h => ?_)
      refine ww_si (n := 1) (As := [.int r63]) (rest := [.int y54, .int x3]) C (c_X9_ones hs h) nq_780 nq_781 nq_5 nq_782 (by decide +kernel) rfl rfl ⟨Nat.le_of_ble_eq_true rfl, Nat.le_of_ble_eq_true rfl, Nat.le_of_ble_eq_true rfl, Nat.le_of_ble_eq_true rfl⟩ (Nat.le_of_ble_eq_true rfl) dX9_share_66 (fun r66 σ66 h => ?_)
      refine ww_aload_n C 1 rfl dX9_share_69 ?_
      refine ww_iconst (v := 0) C dX9_share_70 (by decide) ?_
      refine ww_iload C 5 rfl dX9_share_71 ?_
      refine ww_iconst (v := 1) C dX9_share_73 (by decide) ?_
      refine ww_iload_n C 2 rfl dX9_share_74 ?_
      refine ww_ishl C dX9_share_75 ?_
      refine ww_ior C dX9_share_76 ?_
      refine ww_vi (n := 2) (As := [.int 0, .int (x4 ||| ((1 : Int32) <<< (a1 &&& 31)))]) (rest := [.int r66, .int y54, .int x3]) C (c_X9_flaggedOn hs h) (shc_61 hs) rfl nq_699 nq_700 nq_701 nq_5 nq_702 (by decide +kernel) rfl rfl ⟨Nat.le_of_ble_eq_true rfl, Nat.le_of_ble_eq_true rfl, Nat.le_of_ble_eq_true rfl, Nat.le_of_ble_eq_true rfl⟩ (Nat.le_of_ble_eq_true rfl) dX9_share_77 (fun r77 σ77 h => ?_)
      refine ww_si (n := 1) (As := [.int r77]) (rest := [.int r66, .int y54, .int x3]) C (c_X9_ones hs h) nq_780 nq_781 nq_5 nq_782 (by decide +kernel) rfl rfl ⟨Nat.le_of_ble_eq_true rfl, Nat.le_of_ble_eq_true rfl, Nat.le_of_ble_eq_true rfl, Nat.le_of_ble_eq_true rfl⟩ (Nat.le_of_ble_eq_true rfl) dX9_share_80 (fun r80 σ80 h => ?_)
      refine ww_isub C dX9_share_83 ?_
      refine ww_imul C dX9_share_84 ?_
      refine ww_iadd C dX9_share_85 ?_
      refine ww_nmI h (fun y86 h => ?_)
      refine ww_istore_n (lv' := [(3, .int y86), (5, .int y54), (0, .ref 61), (1, .int a1), (2, .int a2), (4, .int x4)]) C dX9_share_86 rfl (by decide) rfl ?_
      refine ww_iinc (v := (x4 + 1)) (lv' := [(4, .int (x4 + 1)), (3, .int y86), (5, .int y54), (0, .ref 61), (1, .int a1), (2, .int a2)]) C 5 rfl dX9_share_87 rfl (by decide) rfl ?_
      refine ww_goto (tgt := 19) C dX9_share_90 (by decide) ?_
      refine ww_sub [3, 4, 5, 1, 0] rfl ?_
      exact hRc _ _ _ h
set_option maxRecDepth 100000 in
set_option maxHeartbeats 4000000 in
theorem w_X9_share_L19 {p : Program} {l : Launch} {e : Env} {s : State} {m : MethodId} {args : Array Value} {below : List Frame} {meth : Method} {c : Code} {dC : Nat → ClassId} {dI : Nat → Nat → Nat} {cA : Nat → ClassId} {A : Nat → Prop} {al : Nat → Nat} {sh : List Kd} (C : Fx p s m args c cX9_share 6 yX9_share.cls dC dI cA A al) (hr : meth.sig.returnType = some .int) (hlk : meth.locks = false) (hs : ShC sh) {a1 : Int32} {a2 : Int32} {Q : Int32 → St → Prop} {K93 : St → Int32 → Prop} (hK93 : ∀ (σ : St) (x3 : Int32), K93 σ x3 → WW p l e (RM 5) s m args below meth c (MQ below (va_Qi Q (WPost dC dI cA al sh A) A) args s 0 0 A) dC dI cA A 6 0 0 al sh 93 [(2, .int a2), (3, .int x3)] [] σ) : ∀ (f : Nat) (σ : St) (x3 : Int32) (x4 : Int32), m_X9_share_L19 a1 a2 Q K93 f σ x3 x4 → WW p l e (RM 5) s m args below meth c (MQ below (va_Qi Q (WPost dC dI cA al sh A) A) args s 0 0 A) dC dI cA A 6 0 0 al sh 19 [(0, .ref 61), (1, .int a1), (2, .int a2), (3, .int x3), (4, .int x4)] [] σ := by
  intro f
  induction f with
  | zero => intro σ x3 x4 h; exact False.elim h
  | succ f ih => intro σ x3 x4 h; exact w_X9_share_L19b (Q := Q) (a1 := a1) (a2 := a2) C hr hlk hs hK93 ih h
set_option maxRecDepth 100000 in
set_option maxHeartbeats 4000000 in
theorem w_X9_share_J93 {p : Program} {l : Launch} {e : Env} {s : State} {m : MethodId} {args : Array Value} {below : List Frame} {meth : Method} {c : Code} {dC : Nat → ClassId} {dI : Nat → Nat → Nat} {cA : Nat → ClassId} {A : Nat → Prop} {al : Nat → Nat} {sh : List Kd} (C : Fx p s m args c cX9_share 6 yX9_share.cls dC dI cA A al) (hr : meth.sig.returnType = some .int) (hlk : meth.locks = false) (hs : ShC sh) {a1 : Int32} {a2 : Int32} {Q : Int32 → St → Prop} {σ : St} {x3 : Int32} (h : m_X9_share_J93 a1 a2 Q σ x3) : WW p l e (RM 5) s m args below meth c (MQ below (va_Qi Q (WPost dC dI cA al sh A) A) args s 0 0 A) dC dI cA A 6 0 0 al sh 93 [(2, .int a2), (3, .int x3)] [] σ := by
  unfold m_X9_share_J93 at h
  refine ww_iload_n C 1 rfl dX9_share_93 ?_
  refine ww_bipush (v := 24) C dX9_share_94 (by decide) ?_
  refine ww_si (n := 2) (As := [.int x3, .int 24]) (rest := []) C (c_X9_common hs h) nq_786 nq_787 nq_5 nq_788 (by decide +kernel) rfl rfl ⟨Nat.le_of_ble_eq_true rfl, Nat.le_of_ble_eq_true rfl, Nat.le_of_ble_eq_true rfl, Nat.le_of_ble_eq_true rfl⟩ (Nat.le_of_ble_eq_true rfl) dX9_share_96 (fun r96 σ96 h => ?_)
  refine ww_istore (lv' := [(4, .int r96), (2, .int a2), (3, .int x3)]) C dX9_share_99 (by decide) rfl ?_
  refine ww_iload_n C 1 rfl dX9_share_101 ?_
  refine ww_if_eq (tgt := 112) C dX9_share_102 (by decide) (fun hc => ?_) (fun hc => ?_)
  · have h := h.1 hc
    refine ww_bipush (v := 24) C dX9_share_112 (by decide) ?_
    refine ww_iload C 0 rfl dX9_share_114 ?_
    refine ww_idiv C dX9_share_116 h.1 ?_
    have h := h.2
    exact ww_iret C hr hlk h dX9_share_117
  · have h := h.2 hc
    refine ww_iload_n C 2 rfl dX9_share_105 ?_
    refine ww_iload C 0 rfl dX9_share_106 ?_
    refine ww_idiv C dX9_share_108 h.1 ?_
    have h := h.2
    refine ww_goto (tgt := 117) C dX9_share_109 (by decide) ?_
    exact ww_iret C hr hlk h dX9_share_117
set_option maxRecDepth 100000 in
set_option maxHeartbeats 4000000 in
theorem c_X9_share {l : Launch} {dC : Nat → ClassId} {dI : Nat → Nat → Nat} {cA : Nat → ClassId} {al : Nat → Nat} {sh : List Kd} (hs : ShC sh) {σ : St} {a1 : Int32} {a2 : Int32} {Q : Int32 → St → Prop} (h : m_X9_share σ a1 a2 Q) : ∀ sz, Met l yX9_share (wd yX9_share cX9_share 6 (some .int)) (RM 5) (va_Pc ([.ref 61, .int a1, .int a2].map (cv al)) (WPre dC dI cA al sh σ sz)) (va_Qi Q (WPost dC dI cA al sh (AW al sh sz)) (AW al sh sz)) 0 0 (AW al sh sz) := by
  refine ww_met (Qc := fun A => va_Qi Q (WPost dC dI cA al sh A) A) (by decide +kernel) (Nat.le_of_ble_eq_true rfl) (fun p e s m args below meth c A C hr hlk => ?_)
  show WW p l e (RM 5) s m args below meth c (MQ below (va_Qi Q (WPost dC dI cA al sh A) A) args s 0 0 A) dC dI cA A 6 0 0 al sh 0 [(0, .ref 61), (1, .int a1), (2, .int a2)] [] σ
  unfold m_X9_share at h
  refine ww_iload_n C 1 rfl dX9_share_0 ?_
  refine ww_si (n := 1) (As := [.int a1]) (rest := []) C (c_X9_isFour hs h) nq_482 nq_483 nq_5 nq_484 (by decide +kernel) rfl rfl ⟨Nat.le_of_ble_eq_true rfl, Nat.le_of_ble_eq_true rfl, Nat.le_of_ble_eq_true rfl, Nat.le_of_ble_eq_true rfl⟩ (Nat.le_of_ble_eq_true rfl) dX9_share_1 (fun r1 σ1 h => ?_)
  refine ww_if_ne (tgt := 9) C dX9_share_4 (by decide) (fun hc => ?_) (fun hc => ?_)
  · have h := h.1 hc
    refine ww_aload_n C 0 rfl dX9_share_9 ?_
    refine ww_iconst (v := 0) C dX9_share_10 (by decide) ?_
    refine ww_vv (n := 1) (As := [.int 0]) (rest := []) C (c_X9_findHeld hs h) (shc_61 hs) rfl nq_323 nq_324 nq_325 nq_5 nq_326 (by decide +kernel) rfl rfl ⟨Nat.le_of_ble_eq_true rfl, Nat.le_of_ble_eq_true rfl, Nat.le_of_ble_eq_true rfl, Nat.le_of_ble_eq_true rfl⟩ (Nat.le_of_ble_eq_true rfl) dX9_share_11 (fun σ11 h => ?_)
    refine ww_iconst (v := 0) C dX9_share_14 (by decide) ?_
    refine ww_istore_n (lv' := [(3, .int 0), (0, .ref 61), (1, .int a1), (2, .int a2)]) C dX9_share_15 rfl (by decide) rfl ?_
    refine ww_iconst (v := 0) C dX9_share_16 (by decide) ?_
    refine ww_istore (lv' := [(4, .int 0), (3, .int 0), (0, .ref 61), (1, .int a1), (2, .int a2)]) C dX9_share_17 (by decide) rfl ?_
    refine ww_sub [2, 3, 4, 1, 0] rfl ?_
    obtain ⟨f, h⟩ := h
    exact w_X9_share_L19 (Q := Q) (a1 := a1) (a2 := a2) C hr hlk hs (fun σ x3 h => by exact w_X9_share_J93 (Q := Q) (a1 := a1) (a2 := a2) C hr hlk hs h) f _ _ _ h
  · have h := h.2 hc
    refine ww_iconst (v := -1) C dX9_share_7 (by decide) ?_
    exact ww_iret C hr hlk h dX9_share_8
set_option maxRecDepth 100000 in
set_option maxHeartbeats 4000000 in
theorem w_X9_lost_L30b {p : Program} {l : Launch} {e : Env} {s : State} {m : MethodId} {args : Array Value} {below : List Frame} {meth : Method} {c : Code} {dC : Nat → ClassId} {dI : Nat → Nat → Nat} {cA : Nat → ClassId} {A : Nat → Prop} {al : Nat → Nat} {sh : List Kd} (C : Fx p s m args c cX9_lost 11 yX9_lost.cls dC dI cA A al) (hr : meth.sig.returnType = some .int) (hlk : meth.locks = false) (hs : ShC sh) {a1 : Int32} {a2 : Int32} {a3 : Int32} {Q : Int32 → St → Prop} {K70 : St → Int32 → Prop} (hK70 : ∀ (σ : St) (x4 : Int32), K70 σ x4 → WW p l e (RM 4) s m args below meth c (MQ below (va_Qi Q (WPost dC dI cA al sh A) A) args s 0 0 A) dC dI cA A 11 0 0 al sh 70 [(0, .ref 61), (1, .int a1), (2, .int a2), (3, .int a3), (4, .int x4)] [] σ) {Rc : St → Int32 → Int32 → Prop} (hRc : ∀ (σ : St) (x4 : Int32) (x5 : Int32), Rc σ x4 x5 → WW p l e (RM 4) s m args below meth c (MQ below (va_Qi Q (WPost dC dI cA al sh A) A) args s 0 0 A) dC dI cA A 11 0 0 al sh 30 [(0, .ref 61), (1, .int a1), (2, .int a2), (3, .int a3), (4, .int x4), (5, .int x5)] [] σ) {σ : St} {x4 : Int32} {x5 : Int32} (h : m_X9_lost_L30b a1 a2 a3 Q K70 Rc σ x4 x5) : WW p l e (RM 4) s m args below meth c (MQ below (va_Qi Q (WPost dC dI cA al sh A) A) args s 0 0 A) dC dI cA A 11 0 0 al sh 30 [(0, .ref 61), (1, .int a1), (2, .int a2), (3, .int a3), (4, .int x4), (5, .int x5)] [] σ := by
  unfold m_X9_lost_L30b at h
  refine ww_iload C 5 rfl dX9_lost_30 ?_
  refine ww_aload_n C 0 rfl dX9_lost_32 ?_
  refine ww_iconst (v := 0) C dX9_lost_33 (by decide) ?_
  refine ww_vi (n := 1) (As := [.int 0]) (rest := [.int x5]) C (c_X9_many hs h) (shc_61 hs) rfl nq_291 nq_292 nq_293 nq_5 nq_294 (by decide +kernel) rfl rfl ⟨Nat.le_of_ble_eq_true rfl, Nat.le_of_ble_eq_true rfl, Nat.le_of_ble_eq_true rfl, Nat.le_of_ble_eq_true rfl⟩ (Nat.le_of_ble_eq_true rfl) dX9_lost_34 (fun r34 σ34 h => ?_)
  refine ww_icmp_ge (tgt := 70) C dX9_lost_37 (by decide) (fun hc => ?_) (fun hc => ?_)
  · have h := h.1 hc
    refine ww_sub [0, 1, 2, 3, 4] rfl ?_
    exact hK70 _ _ h
  · have h := h.2 hc
    refine ww_iload C 4 rfl dX9_lost_40 ?_
    refine ww_aload_n C 0 rfl dX9_lost_42 ?_
    refine ww_iconst (v := 0) C dX9_lost_43 (by decide) ?_
    refine ww_iload C 5 rfl dX9_lost_44 ?_
    refine ww_iload_n C 1 rfl dX9_lost_46 ?_
    refine ww_vi (n := 3) (As := [.int 0, .int x5, .int a1]) (rest := [.int x4]) C (c_X9_isTouchOf hs h) (shc_61 hs) rfl nq_489 nq_490 nq_491 nq_5 nq_492 (by decide +kernel) rfl rfl ⟨Nat.le_of_ble_eq_true rfl, Nat.le_of_ble_eq_true rfl, Nat.le_of_ble_eq_true rfl, Nat.le_of_ble_eq_true rfl⟩ (Nat.le_of_ble_eq_true rfl) dX9_lost_47 (fun r47 σ47 h => ?_)
    refine ww_if_eq (tgt := 60) C dX9_lost_50 (by decide) (fun hc => ?_) (fun hc => ?_)
    · have h := h.1 hc
      refine ww_iconst (v := 0) C dX9_lost_60 (by decide) ?_
      refine ww_ior C dX9_lost_61 ?_
      refine ww_nmI h (fun y62 h => ?_)
      refine ww_istore (lv' := [(4, .int y62), (0, .ref 61), (1, .int a1), (2, .int a2), (3, .int a3), (5, .int x5)]) C dX9_lost_62 (by decide) rfl ?_
      refine ww_iinc (v := (x5 + 1)) (lv' := [(5, .int (x5 + 1)), (4, .int y62), (0, .ref 61), (1, .int a1), (2, .int a2), (3, .int a3)]) C 5 rfl dX9_lost_64 rfl (by decide) rfl ?_
      refine ww_goto (tgt := 30) C dX9_lost_67 (by decide) ?_
      refine ww_sub [2, 3, 4, 5, 1, 0] rfl ?_
      exact hRc _ _ _ h
    · have h := h.2 hc
      refine ww_iconst (v := 1) C dX9_lost_53 (by decide) ?_
      refine ww_iload C 5 rfl dX9_lost_54 ?_
      refine ww_ishl C dX9_lost_56 ?_
      refine ww_goto (tgt := 61) C dX9_lost_57 (by decide) ?_
      refine ww_ior C dX9_lost_61 ?_
      refine ww_nmI h (fun y62 h => ?_)
      refine ww_istore (lv' := [(4, .int y62), (0, .ref 61), (1, .int a1), (2, .int a2), (3, .int a3), (5, .int x5)]) C dX9_lost_62 (by decide) rfl ?_
      refine ww_iinc (v := (x5 + 1)) (lv' := [(5, .int (x5 + 1)), (4, .int y62), (0, .ref 61), (1, .int a1), (2, .int a2), (3, .int a3)]) C 5 rfl dX9_lost_64 rfl (by decide) rfl ?_
      refine ww_goto (tgt := 30) C dX9_lost_67 (by decide) ?_
      refine ww_sub [2, 3, 4, 5, 1, 0] rfl ?_
      exact hRc _ _ _ h
set_option maxRecDepth 100000 in
set_option maxHeartbeats 4000000 in
theorem w_X9_lost_L30 {p : Program} {l : Launch} {e : Env} {s : State} {m : MethodId} {args : Array Value} {below : List Frame} {meth : Method} {c : Code} {dC : Nat → ClassId} {dI : Nat → Nat → Nat} {cA : Nat → ClassId} {A : Nat → Prop} {al : Nat → Nat} {sh : List Kd} (C : Fx p s m args c cX9_lost 11 yX9_lost.cls dC dI cA A al) (hr : meth.sig.returnType = some .int) (hlk : meth.locks = false) (hs : ShC sh) {a1 : Int32} {a2 : Int32} {a3 : Int32} {Q : Int32 → St → Prop} {K70 : St → Int32 → Prop} (hK70 : ∀ (σ : St) (x4 : Int32), K70 σ x4 → WW p l e (RM 4) s m args below meth c (MQ below (va_Qi Q (WPost dC dI cA al sh A) A) args s 0 0 A) dC dI cA A 11 0 0 al sh 70 [(0, .ref 61), (1, .int a1), (2, .int a2), (3, .int a3), (4, .int x4)] [] σ) : ∀ (f : Nat) (σ : St) (x4 : Int32) (x5 : Int32), m_X9_lost_L30 a1 a2 a3 Q K70 f σ x4 x5 → WW p l e (RM 4) s m args below meth c (MQ below (va_Qi Q (WPost dC dI cA al sh A) A) args s 0 0 A) dC dI cA A 11 0 0 al sh 30 [(0, .ref 61), (1, .int a1), (2, .int a2), (3, .int a3), (4, .int x4), (5, .int x5)] [] σ := by
  intro f
  induction f with
  | zero => intro σ x4 x5 h; exact False.elim h
  | succ f ih => intro σ x4 x5 h; exact w_X9_lost_L30b (Q := Q) (a1 := a1) (a2 := a2) (a3 := a3) C hr hlk hs hK70 ih h
set_option maxRecDepth 100000 in
set_option maxHeartbeats 4000000 in
theorem w_X9_lost_L113b {p : Program} {l : Launch} {e : Env} {s : State} {m : MethodId} {args : Array Value} {below : List Frame} {meth : Method} {c : Code} {dC : Nat → ClassId} {dI : Nat → Nat → Nat} {cA : Nat → ClassId} {A : Nat → Prop} {al : Nat → Nat} {sh : List Kd} (C : Fx p s m args c cX9_lost 11 yX9_lost.cls dC dI cA A al) (hr : meth.sig.returnType = some .int) (hlk : meth.locks = false) (hs : ShC sh) {a1 : Int32} {a2 : Int32} {a3 : Int32} {Q : Int32 → St → Prop} {x4 : Int32} {x5 : Int32} {x6 : Int32} {x7 : Int32} {x8 : Int32} {K149 : St → Int32 → Prop} (hK149 : ∀ (σ : St) (x9 : Int32), K149 σ x9 → WW p l e (RM 4) s m args below meth c (MQ below (va_Qi Q (WPost dC dI cA al sh A) A) args s 0 0 A) dC dI cA A 11 0 0 al sh 149 [(0, .ref 61), (1, .int a1), (2, .int a2), (3, .int a3), (4, .int x4), (5, .int x5), (6, .int x6), (7, .int x7), (8, .int x8), (9, .int x9)] [] σ) {Rc : St → Int32 → Int32 → Prop} (hRc : ∀ (σ : St) (x9 : Int32) (x10 : Int32), Rc σ x9 x10 → WW p l e (RM 4) s m args below meth c (MQ below (va_Qi Q (WPost dC dI cA al sh A) A) args s 0 0 A) dC dI cA A 11 0 0 al sh 113 [(0, .ref 61), (1, .int a1), (2, .int a2), (3, .int a3), (4, .int x4), (5, .int x5), (6, .int x6), (7, .int x7), (8, .int x8), (9, .int x9), (10, .int x10)] [] σ) {σ : St} {x9 : Int32} {x10 : Int32} (h : m_X9_lost_L113b a1 a2 a3 Q x4 x5 x6 x7 x8 K149 Rc σ x9 x10) : WW p l e (RM 4) s m args below meth c (MQ below (va_Qi Q (WPost dC dI cA al sh A) A) args s 0 0 A) dC dI cA A 11 0 0 al sh 113 [(0, .ref 61), (1, .int a1), (2, .int a2), (3, .int a3), (4, .int x4), (5, .int x5), (6, .int x6), (7, .int x7), (8, .int x8), (9, .int x9), (10, .int x10)] [] σ := by
  unfold m_X9_lost_L113b at h
  refine ww_iload C 10 rfl dX9_lost_113 ?_
  refine ww_iload C 5 rfl dX9_lost_115 ?_
  refine ww_icmp_ge (tgt := 149) C dX9_lost_117 (by decide) (fun hc => ?_) (fun hc => ?_)
  · have h := h.1 hc
    refine ww_sub [0, 1, 2, 3, 4, 5, 6, 7, 8, 9] rfl ?_
    exact hK149 _ _ h
  · have h := h.2 hc
    refine ww_iload C 9 rfl dX9_lost_120 ?_
    refine ww_iload C 10 rfl dX9_lost_122 ?_
    refine ww_iload C 8 rfl dX9_lost_124 ?_
    refine ww_si (n := 1) (As := [.int x8]) (rest := [.int x10, .int x9]) C (c_X9_ones hs h) nq_780 nq_781 nq_5 nq_782 (by decide +kernel) rfl rfl ⟨Nat.le_of_ble_eq_true rfl, Nat.le_of_ble_eq_true rfl, Nat.le_of_ble_eq_true rfl, Nat.le_of_ble_eq_true rfl⟩ (Nat.le_of_ble_eq_true rfl) dX9_lost_126 (fun r126 σ126 h => ?_)
    refine ww_icmp_ge (tgt := 136) C dX9_lost_129 (by decide) (fun hc => ?_) (fun hc => ?_)
    · have h := h.1 hc
      refine ww_bipush (v := 10) C dX9_lost_136 (by decide) ?_
      refine ww_iload_n C 2 rfl dX9_lost_138 ?_
      refine ww_isub C dX9_lost_139 ?_
      refine ww_imul C dX9_lost_140 ?_
      refine ww_nmI h (fun y141 h => ?_)
      refine ww_istore (lv' := [(9, .int y141), (0, .ref 61), (1, .int a1), (2, .int a2), (3, .int a3), (4, .int x4), (5, .int x5), (6, .int x6), (7, .int x7), (8, .int x8), (10, .int x10)]) C dX9_lost_141 (by decide) rfl ?_
      refine ww_iinc (v := (x10 + 1)) (lv' := [(10, .int (x10 + 1)), (9, .int y141), (0, .ref 61), (1, .int a1), (2, .int a2), (3, .int a3), (4, .int x4), (5, .int x5), (6, .int x6), (7, .int x7), (8, .int x8)]) C 10 rfl dX9_lost_143 rfl (by decide) rfl ?_
      refine ww_goto (tgt := 113) C dX9_lost_146 (by decide) ?_
      refine ww_sub [2, 3, 4, 5, 6, 7, 8, 9, 10, 1, 0] rfl ?_
      exact hRc _ _ _ h
    · have h := h.2 hc
      refine ww_iload_n C 2 rfl dX9_lost_132 ?_
      refine ww_goto (tgt := 140) C dX9_lost_133 (by decide) ?_
      refine ww_imul C dX9_lost_140 ?_
      refine ww_nmI h (fun y141 h => ?_)
      refine ww_istore (lv' := [(9, .int y141), (0, .ref 61), (1, .int a1), (2, .int a2), (3, .int a3), (4, .int x4), (5, .int x5), (6, .int x6), (7, .int x7), (8, .int x8), (10, .int x10)]) C dX9_lost_141 (by decide) rfl ?_
      refine ww_iinc (v := (x10 + 1)) (lv' := [(10, .int (x10 + 1)), (9, .int y141), (0, .ref 61), (1, .int a1), (2, .int a2), (3, .int a3), (4, .int x4), (5, .int x5), (6, .int x6), (7, .int x7), (8, .int x8)]) C 10 rfl dX9_lost_143 rfl (by decide) rfl ?_
      refine ww_goto (tgt := 113) C dX9_lost_146 (by decide) ?_
      refine ww_sub [2, 3, 4, 5, 6, 7, 8, 9, 10, 1, 0] rfl ?_
      exact hRc _ _ _ h
set_option maxRecDepth 100000 in
set_option maxHeartbeats 4000000 in
theorem w_X9_lost_L113 {p : Program} {l : Launch} {e : Env} {s : State} {m : MethodId} {args : Array Value} {below : List Frame} {meth : Method} {c : Code} {dC : Nat → ClassId} {dI : Nat → Nat → Nat} {cA : Nat → ClassId} {A : Nat → Prop} {al : Nat → Nat} {sh : List Kd} (C : Fx p s m args c cX9_lost 11 yX9_lost.cls dC dI cA A al) (hr : meth.sig.returnType = some .int) (hlk : meth.locks = false) (hs : ShC sh) {a1 : Int32} {a2 : Int32} {a3 : Int32} {Q : Int32 → St → Prop} {x4 : Int32} {x5 : Int32} {x6 : Int32} {x7 : Int32} {x8 : Int32} {K149 : St → Int32 → Prop} (hK149 : ∀ (σ : St) (x9 : Int32), K149 σ x9 → WW p l e (RM 4) s m args below meth c (MQ below (va_Qi Q (WPost dC dI cA al sh A) A) args s 0 0 A) dC dI cA A 11 0 0 al sh 149 [(0, .ref 61), (1, .int a1), (2, .int a2), (3, .int a3), (4, .int x4), (5, .int x5), (6, .int x6), (7, .int x7), (8, .int x8), (9, .int x9)] [] σ) : ∀ (f : Nat) (σ : St) (x9 : Int32) (x10 : Int32), m_X9_lost_L113 a1 a2 a3 Q x4 x5 x6 x7 x8 K149 f σ x9 x10 → WW p l e (RM 4) s m args below meth c (MQ below (va_Qi Q (WPost dC dI cA al sh A) A) args s 0 0 A) dC dI cA A 11 0 0 al sh 113 [(0, .ref 61), (1, .int a1), (2, .int a2), (3, .int a3), (4, .int x4), (5, .int x5), (6, .int x6), (7, .int x7), (8, .int x8), (9, .int x9), (10, .int x10)] [] σ := by
  intro f
  induction f with
  | zero => intro σ x9 x10 h; exact False.elim h
  | succ f ih => intro σ x9 x10 h; exact w_X9_lost_L113b (Q := Q) (a1 := a1) (a2 := a2) (a3 := a3) C hr hlk hs hK149 ih h
set_option maxRecDepth 100000 in
set_option maxHeartbeats 4000000 in
theorem w_X9_lost_J188 {p : Program} {l : Launch} {e : Env} {s : State} {m : MethodId} {args : Array Value} {below : List Frame} {meth : Method} {c : Code} {dC : Nat → ClassId} {dI : Nat → Nat → Nat} {cA : Nat → ClassId} {A : Nat → Prop} {al : Nat → Nat} {sh : List Kd} (C : Fx p s m args c cX9_lost 11 yX9_lost.cls dC dI cA A al) (hr : meth.sig.returnType = some .int) (hlk : meth.locks = false) (hs : ShC sh) {a1 : Int32} {a2 : Int32} {a3 : Int32} {Q : Int32 → St → Prop} {x4 : Int32} {x5 : Int32} {K212 : St → Int32 → Int32 → Prop} (hK212 : ∀ (σ : St) (x6 : Int32) (x7 : Int32), K212 σ x6 x7 → WW p l e (RM 4) s m args below meth c (MQ below (va_Qi Q (WPost dC dI cA al sh A) A) args s 0 0 A) dC dI cA A 11 0 0 al sh 212 [(3, .int a3), (6, .int x6), (7, .int x7)] [] σ) {Rc : St → Int32 → Int32 → Int32 → Prop} (hRc : ∀ (σ : St) (x6 : Int32) (x7 : Int32) (x8 : Int32), Rc σ x6 x7 x8 → WW p l e (RM 4) s m args below meth c (MQ below (va_Qi Q (WPost dC dI cA al sh A) A) args s 0 0 A) dC dI cA A 11 0 0 al sh 102 [(0, .ref 61), (1, .int a1), (2, .int a2), (3, .int a3), (4, .int x4), (5, .int x5), (6, .int x6), (7, .int x7), (8, .int x8)] [] σ) {σ : St} {x7 : Int32} {x8 : Int32} {t0 : Int32} {t1 : Int32} (h : m_X9_lost_J188 a1 a2 a3 Q x4 x5 K212 Rc σ x7 x8 t0 t1) : WW p l e (RM 4) s m args below meth c (MQ below (va_Qi Q (WPost dC dI cA al sh A) A) args s 0 0 A) dC dI cA A 11 0 0 al sh 188 [(0, .ref 61), (1, .int a1), (2, .int a2), (3, .int a3), (4, .int x4), (5, .int x5), (7, .int x7), (8, .int x8)] [.int t1, .int t0] σ := by
  unfold m_X9_lost_J188 at h
  refine ww_iadd C dX9_lost_188 ?_
  refine ww_nmI h (fun y189 h => ?_)
  refine ww_istore (lv' := [(6, .int y189), (0, .ref 61), (1, .int a1), (2, .int a2), (3, .int a3), (4, .int x4), (5, .int x5), (7, .int x7), (8, .int x8)]) C dX9_lost_189 (by decide) rfl ?_
  refine ww_iload C 8 rfl dX9_lost_191 ?_
  refine ww_if_ne (tgt := 200) C dX9_lost_193 (by decide) (fun hc => ?_) (fun hc => ?_)
  · have h := h.1 hc
    refine ww_iload C 8 rfl dX9_lost_200 ?_
    refine ww_iconst (v := 1) C dX9_lost_202 (by decide) ?_
    refine ww_isub C dX9_lost_203 ?_
    refine ww_iload C 5 rfl dX9_lost_204 ?_
    refine ww_iand C dX9_lost_206 ?_
    refine ww_nmI h (fun y207 h => ?_)
    refine ww_istore (lv' := [(8, .int y207), (6, .int y189), (0, .ref 61), (1, .int a1), (2, .int a2), (3, .int a3), (4, .int x4), (5, .int x5), (7, .int x7)]) C dX9_lost_207 (by decide) rfl ?_
    refine ww_goto (tgt := 102) C dX9_lost_209 (by decide) ?_
    refine ww_sub [2, 3, 4, 5, 6, 7, 1, 8, 0] rfl ?_
    exact hRc _ _ _ _ h
  · have h := h.2 hc
    refine ww_iconst (v := -1) C dX9_lost_196 (by decide) ?_
    refine ww_goto (tgt := 207) C dX9_lost_197 (by decide) ?_
    refine ww_istore (lv' := [(8, .int (-1)), (6, .int y189), (0, .ref 61), (1, .int a1), (2, .int a2), (3, .int a3), (4, .int x4), (5, .int x5), (7, .int x7)]) C dX9_lost_207 (by decide) rfl ?_
    refine ww_goto (tgt := 102) C dX9_lost_209 (by decide) ?_
    refine ww_sub [2, 3, 4, 5, 6, 7, 1, 8, 0] rfl ?_
    exact hRc _ _ _ _ h
set_option maxRecDepth 100000 in
set_option maxHeartbeats 4000000 in
theorem w_X9_lost_J149 {p : Program} {l : Launch} {e : Env} {s : State} {m : MethodId} {args : Array Value} {below : List Frame} {meth : Method} {c : Code} {dC : Nat → ClassId} {dI : Nat → Nat → Nat} {cA : Nat → ClassId} {A : Nat → Prop} {al : Nat → Nat} {sh : List Kd} (C : Fx p s m args c cX9_lost 11 yX9_lost.cls dC dI cA A al) (hr : meth.sig.returnType = some .int) (hlk : meth.locks = false) (hs : ShC sh) {a1 : Int32} {a2 : Int32} {a3 : Int32} {Q : Int32 → St → Prop} {x4 : Int32} {x5 : Int32} {K212 : St → Int32 → Int32 → Prop} (hK212 : ∀ (σ : St) (x6 : Int32) (x7 : Int32), K212 σ x6 x7 → WW p l e (RM 4) s m args below meth c (MQ below (va_Qi Q (WPost dC dI cA al sh A) A) args s 0 0 A) dC dI cA A 11 0 0 al sh 212 [(3, .int a3), (6, .int x6), (7, .int x7)] [] σ) {Rc : St → Int32 → Int32 → Int32 → Prop} (hRc : ∀ (σ : St) (x6 : Int32) (x7 : Int32) (x8 : Int32), Rc σ x6 x7 x8 → WW p l e (RM 4) s m args below meth c (MQ below (va_Qi Q (WPost dC dI cA al sh A) A) args s 0 0 A) dC dI cA A 11 0 0 al sh 102 [(0, .ref 61), (1, .int a1), (2, .int a2), (3, .int a3), (4, .int x4), (5, .int x5), (6, .int x6), (7, .int x7), (8, .int x8)] [] σ) {σ : St} {x6 : Int32} {x7 : Int32} {x8 : Int32} {x9 : Int32} (h : m_X9_lost_J149 a1 a2 a3 Q x4 x5 K212 Rc σ x6 x7 x8 x9) : WW p l e (RM 4) s m args below meth c (MQ below (va_Qi Q (WPost dC dI cA al sh A) A) args s 0 0 A) dC dI cA A 11 0 0 al sh 149 [(0, .ref 61), (1, .int a1), (2, .int a2), (3, .int a3), (4, .int x4), (5, .int x5), (6, .int x6), (7, .int x7), (8, .int x8), (9, .int x9)] [] σ := by
  unfold m_X9_lost_J149 at h
  refine ww_aload_n C 0 rfl dX9_lost_149 ?_
  refine ww_iconst (v := 0) C dX9_lost_150 (by decide) ?_
  refine ww_iload_n C 1 rfl dX9_lost_151 ?_
  refine ww_aload_n C 0 rfl dX9_lost_152 ?_
  refine ww_iconst (v := 0) C dX9_lost_153 (by decide) ?_
  refine ww_vi (n := 1) (As := [.int 0]) (rest := [.int a1, .int 0, .ref 61]) C (c_X9_many hs h) (shc_61 hs) rfl nq_291 nq_292 nq_293 nq_5 nq_294 (by decide +kernel) rfl rfl ⟨Nat.le_of_ble_eq_true rfl, Nat.le_of_ble_eq_true rfl, Nat.le_of_ble_eq_true rfl, Nat.le_of_ble_eq_true rfl⟩ (Nat.le_of_ble_eq_true rfl) dX9_lost_154 (fun r154 σ154 h => ?_)
  refine ww_bipush (v := 15) C dX9_lost_157 (by decide) ?_
  refine ww_iload C 8 rfl dX9_lost_159 ?_
  refine ww_vv (n := 5) (As := [.int 0, .int a1, .int r154, .int 15, .int x8]) (rest := []) C (c_X9_watchCell hs h) (shc_61 hs) rfl nq_485 nq_486 nq_487 nq_5 nq_488 (by decide +kernel) rfl rfl ⟨Nat.le_of_ble_eq_true rfl, Nat.le_of_ble_eq_true rfl, Nat.le_of_ble_eq_true rfl, Nat.le_of_ble_eq_true rfl⟩ (Nat.le_of_ble_eq_true rfl) dX9_lost_161 (fun σ161 h => ?_)
  refine ww_iload C 7 rfl dX9_lost_164 ?_
  refine ww_iload C 9 rfl dX9_lost_166 ?_
  refine ww_iadd C dX9_lost_168 ?_
  refine ww_nmI h (fun y169 h => ?_)
  refine ww_istore (lv' := [(7, .int y169), (0, .ref 61), (1, .int a1), (2, .int a2), (3, .int a3), (4, .int x4), (5, .int x5), (6, .int x6), (8, .int x8), (9, .int x9)]) C dX9_lost_169 (by decide) rfl ?_
  refine ww_iload C 7 rfl dX9_lost_171 ?_
  refine ww_aload_n C 1 rfl dX9_lost_173 ?_
  refine ww_getI C (shc_61 hs) rfl inG9 16 (by decide) nq_480 rfl dX9_lost_174 ?_
  refine ww_bipush (v := -9) C dX9_lost_177 (by decide) ?_
  refine ww_icmp_ne (tgt := 186) C dX9_lost_179 (by decide) (fun hc => ?_) (fun hc => ?_)
  · have h := h.1 hc
    refine ww_iload C 9 rfl dX9_lost_186 ?_
    refine ww_sub [1, 2, 3, 4, 5, 6, 0, 8] rfl ?_
    exact w_X9_lost_J188 (Q := Q) (a1 := a1) (a2 := a2) (a3 := a3) C hr hlk hs hK212 hRc h
  · have h := h.2 hc
    refine ww_iconst (v := 0) C dX9_lost_182 (by decide) ?_
    refine ww_goto (tgt := 188) C dX9_lost_183 (by decide) ?_
    refine ww_sub [1, 2, 3, 4, 5, 6, 0, 8] rfl ?_
    exact w_X9_lost_J188 (Q := Q) (a1 := a1) (a2 := a2) (a3 := a3) C hr hlk hs hK212 hRc h
set_option maxRecDepth 100000 in
set_option maxHeartbeats 4000000 in
theorem w_X9_lost_L102b {p : Program} {l : Launch} {e : Env} {s : State} {m : MethodId} {args : Array Value} {below : List Frame} {meth : Method} {c : Code} {dC : Nat → ClassId} {dI : Nat → Nat → Nat} {cA : Nat → ClassId} {A : Nat → Prop} {al : Nat → Nat} {sh : List Kd} (C : Fx p s m args c cX9_lost 11 yX9_lost.cls dC dI cA A al) (hr : meth.sig.returnType = some .int) (hlk : meth.locks = false) (hs : ShC sh) {a1 : Int32} {a2 : Int32} {a3 : Int32} {Q : Int32 → St → Prop} {x4 : Int32} {x5 : Int32} {K212 : St → Int32 → Int32 → Prop} (hK212 : ∀ (σ : St) (x6 : Int32) (x7 : Int32), K212 σ x6 x7 → WW p l e (RM 4) s m args below meth c (MQ below (va_Qi Q (WPost dC dI cA al sh A) A) args s 0 0 A) dC dI cA A 11 0 0 al sh 212 [(3, .int a3), (6, .int x6), (7, .int x7)] [] σ) {Rc : St → Int32 → Int32 → Int32 → Prop} (hRc : ∀ (σ : St) (x6 : Int32) (x7 : Int32) (x8 : Int32), Rc σ x6 x7 x8 → WW p l e (RM 4) s m args below meth c (MQ below (va_Qi Q (WPost dC dI cA al sh A) A) args s 0 0 A) dC dI cA A 11 0 0 al sh 102 [(0, .ref 61), (1, .int a1), (2, .int a2), (3, .int a3), (4, .int x4), (5, .int x5), (6, .int x6), (7, .int x7), (8, .int x8)] [] σ) {σ : St} {x6 : Int32} {x7 : Int32} {x8 : Int32} (h : m_X9_lost_L102b a1 a2 a3 Q x4 x5 K212 Rc σ x6 x7 x8) : WW p l e (RM 4) s m args below meth c (MQ below (va_Qi Q (WPost dC dI cA al sh A) A) args s 0 0 A) dC dI cA A 11 0 0 al sh 102 [(0, .ref 61), (1, .int a1), (2, .int a2), (3, .int a3), (4, .int x4), (5, .int x5), (6, .int x6), (7, .int x7), (8, .int x8)] [] σ := by
  unfold m_X9_lost_L102b at h
  refine ww_iload C 8 rfl dX9_lost_102 ?_
  refine ww_if_lt (tgt := 212) C dX9_lost_104 (by decide) (fun hc => ?_) (fun hc => ?_)
  · have h := h.1 hc
    refine ww_sub [3, 6, 7] rfl ?_
    exact hK212 _ _ _ h
  · have h := h.2 hc
    refine ww_iconst (v := 1) C dX9_lost_107 (by decide) ?_
    refine ww_istore (lv' := [(9, .int 1), (0, .ref 61), (1, .int a1), (2, .int a2), (3, .int a3), (4, .int x4), (5, .int x5), (6, .int x6), (7, .int x7), (8, .int x8)]) C dX9_lost_108 (by decide) rfl ?_
    refine ww_iconst (v := 0) C dX9_lost_110 (by decide) ?_
    refine ww_istore (lv' := [(10, .int 0), (9, .int 1), (0, .ref 61), (1, .int a1), (2, .int a2), (3, .int a3), (4, .int x4), (5, .int x5), (6, .int x6), (7, .int x7), (8, .int x8)]) C dX9_lost_111 (by decide) rfl ?_
    refine ww_sub [2, 3, 4, 5, 6, 7, 8, 9, 10, 1, 0] rfl ?_
    obtain ⟨f, h⟩ := h
    exact w_X9_lost_L113 (Q := Q) (a1 := a1) (a2 := a2) (a3 := a3) C hr hlk hs (fun σ x9 h => by exact w_X9_lost_J149 (Q := Q) (a1 := a1) (a2 := a2) (a3 := a3) C hr hlk hs hK212 hRc h) f _ _ _ h
set_option maxRecDepth 100000 in
set_option maxHeartbeats 4000000 in
theorem w_X9_lost_L102 {p : Program} {l : Launch} {e : Env} {s : State} {m : MethodId} {args : Array Value} {below : List Frame} {meth : Method} {c : Code} {dC : Nat → ClassId} {dI : Nat → Nat → Nat} {cA : Nat → ClassId} {A : Nat → Prop} {al : Nat → Nat} {sh : List Kd} (C : Fx p s m args c cX9_lost 11 yX9_lost.cls dC dI cA A al) (hr : meth.sig.returnType = some .int) (hlk : meth.locks = false) (hs : ShC sh) {a1 : Int32} {a2 : Int32} {a3 : Int32} {Q : Int32 → St → Prop} {x4 : Int32} {x5 : Int32} {K212 : St → Int32 → Int32 → Prop} (hK212 : ∀ (σ : St) (x6 : Int32) (x7 : Int32), K212 σ x6 x7 → WW p l e (RM 4) s m args below meth c (MQ below (va_Qi Q (WPost dC dI cA al sh A) A) args s 0 0 A) dC dI cA A 11 0 0 al sh 212 [(3, .int a3), (6, .int x6), (7, .int x7)] [] σ) : ∀ (f : Nat) (σ : St) (x6 : Int32) (x7 : Int32) (x8 : Int32), m_X9_lost_L102 a1 a2 a3 Q x4 x5 K212 f σ x6 x7 x8 → WW p l e (RM 4) s m args below meth c (MQ below (va_Qi Q (WPost dC dI cA al sh A) A) args s 0 0 A) dC dI cA A 11 0 0 al sh 102 [(0, .ref 61), (1, .int a1), (2, .int a2), (3, .int a3), (4, .int x4), (5, .int x5), (6, .int x6), (7, .int x7), (8, .int x8)] [] σ := by
  intro f
  induction f with
  | zero => intro σ x6 x7 x8 h; exact False.elim h
  | succ f ih => intro σ x6 x7 x8 h; exact w_X9_lost_L102b (Q := Q) (a1 := a1) (a2 := a2) (a3 := a3) C hr hlk hs hK212 ih h
set_option maxRecDepth 100000 in
set_option maxHeartbeats 4000000 in
theorem w_X9_lost_J212 {p : Program} {l : Launch} {e : Env} {s : State} {m : MethodId} {args : Array Value} {below : List Frame} {meth : Method} {c : Code} {dC : Nat → ClassId} {dI : Nat → Nat → Nat} {cA : Nat → ClassId} {A : Nat → Prop} {al : Nat → Nat} {sh : List Kd} (C : Fx p s m args c cX9_lost 11 yX9_lost.cls dC dI cA A al) (hr : meth.sig.returnType = some .int) (hlk : meth.locks = false) (hs : ShC sh) {a1 : Int32} {a2 : Int32} {a3 : Int32} {Q : Int32 → St → Prop} {σ : St} {x6 : Int32} {x7 : Int32} (h : m_X9_lost_J212 a1 a2 a3 Q σ x6 x7) : WW p l e (RM 4) s m args below meth c (MQ below (va_Qi Q (WPost dC dI cA al sh A) A) args s 0 0 A) dC dI cA A 11 0 0 al sh 212 [(3, .int a3), (6, .int x6), (7, .int x7)] [] σ := by
  unfold m_X9_lost_J212 at h
  refine ww_iload C 1 rfl dX9_lost_212 ?_
  refine ww_iload C 2 rfl dX9_lost_214 ?_
  refine ww_si (n := 2) (As := [.int x6, .int x7]) (rest := []) C (c_X9_common hs h) nq_786 nq_787 nq_5 nq_788 (by decide +kernel) rfl rfl ⟨Nat.le_of_ble_eq_true rfl, Nat.le_of_ble_eq_true rfl, Nat.le_of_ble_eq_true rfl, Nat.le_of_ble_eq_true rfl⟩ (Nat.le_of_ble_eq_true rfl) dX9_lost_216 (fun r216 σ216 h => ?_)
  refine ww_istore (lv' := [(8, .int r216), (3, .int a3), (6, .int x6), (7, .int x7)]) C dX9_lost_219 (by decide) rfl ?_
  refine ww_iload_n C 1 rfl dX9_lost_221 ?_
  refine ww_if_eq (tgt := 233) C dX9_lost_222 (by decide) (fun hc => ?_) (fun hc => ?_)
  · have h := h.1 hc
    refine ww_iload C 3 rfl dX9_lost_233 ?_
    refine ww_iload C 0 rfl dX9_lost_235 ?_
    refine ww_idiv C dX9_lost_237 h.1 ?_
    have h := h.2
    exact ww_iret C hr hlk h dX9_lost_238
  · have h := h.2 hc
    refine ww_iload C 2 rfl dX9_lost_225 ?_
    refine ww_iload C 0 rfl dX9_lost_227 ?_
    refine ww_idiv C dX9_lost_229 h.1 ?_
    have h := h.2
    refine ww_goto (tgt := 238) C dX9_lost_230 (by decide) ?_
    exact ww_iret C hr hlk h dX9_lost_238
set_option maxRecDepth 100000 in
set_option maxHeartbeats 4000000 in
theorem w_X9_lost_J70 {p : Program} {l : Launch} {e : Env} {s : State} {m : MethodId} {args : Array Value} {below : List Frame} {meth : Method} {c : Code} {dC : Nat → ClassId} {dI : Nat → Nat → Nat} {cA : Nat → ClassId} {A : Nat → Prop} {al : Nat → Nat} {sh : List Kd} (C : Fx p s m args c cX9_lost 11 yX9_lost.cls dC dI cA A al) (hr : meth.sig.returnType = some .int) (hlk : meth.locks = false) (hs : ShC sh) {a1 : Int32} {a2 : Int32} {a3 : Int32} {Q : Int32 → St → Prop} {σ : St} {x4 : Int32} (h : m_X9_lost_J70 a1 a2 a3 Q σ x4) : WW p l e (RM 4) s m args below meth c (MQ below (va_Qi Q (WPost dC dI cA al sh A) A) args s 0 0 A) dC dI cA A 11 0 0 al sh 70 [(0, .ref 61), (1, .int a1), (2, .int a2), (3, .int a3), (4, .int x4)] [] σ := by
  unfold m_X9_lost_J70 at h
  refine ww_iload C 4 rfl dX9_lost_70 ?_
  refine ww_si (n := 1) (As := [.int x4]) (rest := []) C (c_X9_ones hs h) nq_780 nq_781 nq_5 nq_782 (by decide +kernel) rfl rfl ⟨Nat.le_of_ble_eq_true rfl, Nat.le_of_ble_eq_true rfl, Nat.le_of_ble_eq_true rfl, Nat.le_of_ble_eq_true rfl⟩ (Nat.le_of_ble_eq_true rfl) dX9_lost_72 (fun r72 σ72 h => ?_)
  refine ww_istore (lv' := [(5, .int r72), (0, .ref 61), (1, .int a1), (2, .int a2), (3, .int a3), (4, .int x4)]) C dX9_lost_75 (by decide) rfl ?_
  refine ww_iload C 0 rfl dX9_lost_77 ?_
  refine ww_bipush (v := 9) C dX9_lost_79 (by decide) ?_
  refine ww_icmp_le (tgt := 87) C dX9_lost_81 (by decide) (fun hc => ?_) (fun hc => ?_)
  · have h := h.1 hc
    refine ww_aload_n C 1 rfl dX9_lost_87 ?_
    refine ww_iconst (v := 0) C dX9_lost_88 (by decide) ?_
    refine ww_vv (n := 1) (As := [.int 0]) (rest := []) C (c_X9_findHeld hs h) (shc_61 hs) rfl nq_323 nq_324 nq_325 nq_5 nq_326 (by decide +kernel) rfl rfl ⟨Nat.le_of_ble_eq_true rfl, Nat.le_of_ble_eq_true rfl, Nat.le_of_ble_eq_true rfl, Nat.le_of_ble_eq_true rfl⟩ (Nat.le_of_ble_eq_true rfl) dX9_lost_89 (fun σ89 h => ?_)
    refine ww_iconst (v := 0) C dX9_lost_92 (by decide) ?_
    refine ww_istore (lv' := [(6, .int 0), (5, .int r72), (0, .ref 61), (1, .int a1), (2, .int a2), (3, .int a3), (4, .int x4)]) C dX9_lost_93 (by decide) rfl ?_
    refine ww_iconst (v := 0) C dX9_lost_95 (by decide) ?_
    refine ww_istore (lv' := [(7, .int 0), (6, .int 0), (5, .int r72), (0, .ref 61), (1, .int a1), (2, .int a2), (3, .int a3), (4, .int x4)]) C dX9_lost_96 (by decide) rfl ?_
    refine ww_iload C 7 rfl dX9_lost_98 ?_
    refine ww_istore (lv' := [(8, .int x4), (7, .int 0), (6, .int 0), (5, .int r72), (0, .ref 61), (1, .int a1), (2, .int a2), (3, .int a3), (4, .int x4)]) C dX9_lost_100 (by decide) rfl ?_
    refine ww_sub [4, 5, 6, 7, 8, 3, 2, 1, 0] rfl ?_
    obtain ⟨f, h⟩ := h
    exact w_X9_lost_L102 (Q := Q) (a1 := a1) (a2 := a2) (a3 := a3) C hr hlk hs (fun σ x6 x7 h => by exact w_X9_lost_J212 (Q := Q) (a1 := a1) (a2 := a2) (a3 := a3) C hr hlk hs h) f _ _ _ _ h
  · have h := h.2 hc
    refine ww_bipush (v := -4) C dX9_lost_84 (by decide) ?_
    exact ww_iret C hr hlk h dX9_lost_86
set_option maxRecDepth 100000 in
set_option maxHeartbeats 4000000 in
theorem c_X9_lost {l : Launch} {dC : Nat → ClassId} {dI : Nat → Nat → Nat} {cA : Nat → ClassId} {al : Nat → Nat} {sh : List Kd} (hs : ShC sh) {σ : St} {a1 : Int32} {a2 : Int32} {a3 : Int32} {Q : Int32 → St → Prop} (h : m_X9_lost σ a1 a2 a3 Q) : ∀ sz, Met l yX9_lost (wd yX9_lost cX9_lost 11 (some .int)) (RM 4) (va_Pc ([.ref 61, .int a1, .int a2, .int a3].map (cv al)) (WPre dC dI cA al sh σ sz)) (va_Qi Q (WPost dC dI cA al sh (AW al sh sz)) (AW al sh sz)) 0 0 (AW al sh sz) := by
  refine ww_met (Qc := fun A => va_Qi Q (WPost dC dI cA al sh A) A) (by decide +kernel) (Nat.le_of_ble_eq_true rfl) (fun p e s m args below meth c A C hr hlk => ?_)
  show WW p l e (RM 4) s m args below meth c (MQ below (va_Qi Q (WPost dC dI cA al sh A) A) args s 0 0 A) dC dI cA A 11 0 0 al sh 0 [(0, .ref 61), (1, .int a1), (2, .int a2), (3, .int a3)] [] σ
  unfold m_X9_lost at h
  refine ww_iload_n C 1 rfl dX9_lost_0 ?_
  refine ww_si (n := 1) (As := [.int a1]) (rest := []) C (c_X9_isFour hs h) nq_482 nq_483 nq_5 nq_484 (by decide +kernel) rfl rfl ⟨Nat.le_of_ble_eq_true rfl, Nat.le_of_ble_eq_true rfl, Nat.le_of_ble_eq_true rfl, Nat.le_of_ble_eq_true rfl⟩ (Nat.le_of_ble_eq_true rfl) dX9_lost_1 (fun r1 σ1 h => ?_)
  refine ww_if_ne (tgt := 9) C dX9_lost_4 (by decide) (fun hc => ?_) (fun hc => ?_)
  · have h := h.1 hc
    refine ww_iload_n C 2 rfl dX9_lost_9 ?_
    refine ww_i2l C dX9_lost_10 ?_
    refine ww_lconst (v := 0) C dX9_lost_11 (by decide) ?_
    refine ww_ldc2 (v := 10) C nq_819 dX9_lost_12 ?_
    refine ww_si (n := 3) (As := [.long (a2.toInt64), .long 0, .long 10]) (rest := []) C (c_X9_in hs h) nq_159 nq_160 nq_5 nq_161 (by decide +kernel) rfl rfl ⟨Nat.le_of_ble_eq_true rfl, Nat.le_of_ble_eq_true rfl, Nat.le_of_ble_eq_true rfl, Nat.le_of_ble_eq_true rfl⟩ (Nat.le_of_ble_eq_true rfl) dX9_lost_15 (fun r15 σ15 h => ?_)
    refine ww_if_ne (tgt := 24) C dX9_lost_18 (by decide) (fun hc => ?_) (fun hc => ?_)
    · have h := h.1 hc
      refine ww_iconst (v := 0) C dX9_lost_24 (by decide) ?_
      refine ww_istore (lv' := [(4, .int 0), (0, .ref 61), (1, .int a1), (2, .int a2), (3, .int a3)]) C dX9_lost_25 (by decide) rfl ?_
      refine ww_iconst (v := 0) C dX9_lost_27 (by decide) ?_
      refine ww_istore (lv' := [(5, .int 0), (4, .int 0), (0, .ref 61), (1, .int a1), (2, .int a2), (3, .int a3)]) C dX9_lost_28 (by decide) rfl ?_
      refine ww_sub [2, 3, 4, 5, 1, 0] rfl ?_
      obtain ⟨f, h⟩ := h
      exact w_X9_lost_L30 (Q := Q) (a1 := a1) (a2 := a2) (a3 := a3) C hr hlk hs (fun σ x4 h => by exact w_X9_lost_J70 (Q := Q) (a1 := a1) (a2 := a2) (a3 := a3) C hr hlk hs h) f _ _ _ h
    · have h := h.2 hc
      refine ww_bipush (v := -2) C dX9_lost_21 (by decide) ?_
      exact ww_iret C hr hlk h dX9_lost_23
  · have h := h.2 hc
    refine ww_iconst (v := -1) C dX9_lost_7 (by decide) ?_
    exact ww_iret C hr hlk h dX9_lost_8
set_option maxRecDepth 100000 in
set_option maxHeartbeats 4000000 in
theorem c_X9_seed {l : Launch} {dC : Nat → ClassId} {dI : Nat → Nat → Nat} {cA : Nat → ClassId} {al : Nat → Nat} {sh : List Kd} (hs : ShC sh) {σ : St} {a1 : Int64} {Q : Int64 → St → Prop} (h : m_X9_seed σ a1 Q) : ∀ sz, Met l yX9_seed (wd yX9_seed cX9_seed 5 (some .long)) (RM 0) (va_Pc ([.ref 61, .long a1].map (cv al)) (WPre dC dI cA al sh σ sz)) (va_Ql Q (WPost dC dI cA al sh (AW al sh sz)) (AW al sh sz)) 0 0 (AW al sh sz) := by
  refine ww_met (Qc := fun A => va_Ql Q (WPost dC dI cA al sh A) A) (by decide +kernel) (Nat.le_of_ble_eq_true rfl) (fun p e s m args below meth c A C hr hlk => ?_)
  show WW p l e (RM 0) s m args below meth c (MQ below (va_Ql Q (WPost dC dI cA al sh A) A) args s 0 0 A) dC dI cA A 5 0 0 al sh 0 [(0, .ref 61), (1, .long a1)] [] σ
  unfold m_X9_seed at h
  refine ww_aload_n C 0 rfl dX9_seed_0 ?_
  refine ww_getL C (shc_61 hs) rfl inG9 36 (by decide) nq_828 rfl dX9_seed_1 ?_
  refine ww_nmJ h (fun y4 h => ?_)
  refine ww_lstore_n (lv' := [(3, .long y4), (0, .ref 61), (1, .long a1)]) C dX9_seed_4 rfl (by decide) rfl ?_
  refine ww_aload_n C 1 rfl dX9_seed_5 ?_
  refine ww_lload_n C 2 rfl dX9_seed_6 ?_
  refine ww_putL C (shc_61 hs) rfl inG9 36 (by decide) nq_828 tyX9 tyX9_ok nmX9 rfl (by decide +kernel) rfl dX9_seed_7 h (fun σ7 h => ?_)
  refine ww_lload_n C 0 rfl dX9_seed_10 ?_
  exact ww_lret C hr hlk h dX9_seed_11
set_option maxRecDepth 100000 in
set_option maxHeartbeats 4000000 in
theorem w_X9_drawn_J96 {p : Program} {l : Launch} {e : Env} {s : State} {m : MethodId} {args : Array Value} {below : List Frame} {meth : Method} {c : Code} {dC : Nat → ClassId} {dI : Nat → Nat → Nat} {cA : Nat → ClassId} {A : Nat → Prop} {al : Nat → Nat} {sh : List Kd} (C : Fx p s m args c cX9_drawn 6 yX9_drawn.cls dC dI cA A al) (hr : meth.sig.returnType = some .int) (hlk : meth.locks = false) (hs : ShC sh) {a1 : Int32} {Q : Int32 → St → Prop} {K123 : St → Int32 → Int32 → Prop} (hK123 : ∀ (σ : St) (x2 : Int32) (x3 : Int32), K123 σ x2 x3 → WW p l e (RM 8) s m args below meth c (MQ below (va_Qi Q (WPost dC dI cA al sh A) A) args s 0 0 A) dC dI cA A 6 0 0 al sh 123 [(2, .int x2), (3, .int x3)] [] σ) {Rc : St → Int32 → Int32 → Int32 → Prop} (hRc : ∀ (σ : St) (x2 : Int32) (x3 : Int32) (x4 : Int32), Rc σ x2 x3 x4 → WW p l e (RM 8) s m args below meth c (MQ below (va_Qi Q (WPost dC dI cA al sh A) A) args s 0 0 A) dC dI cA A 6 0 0 al sh 28 [(0, .ref 61), (1, .int a1), (2, .int x2), (3, .int x3), (4, .int x4)] [] σ) {σ : St} {x2 : Int32} {x4 : Int32} {t0 : Int32} {t1 : Int32} (h : m_X9_drawn_J96 a1 Q K123 Rc σ x2 x4 t0 t1) : WW p l e (RM 8) s m args below meth c (MQ below (va_Qi Q (WPost dC dI cA al sh A) A) args s 0 0 A) dC dI cA A 6 0 0 al sh 96 [(0, .ref 61), (1, .int a1), (2, .int x2), (4, .int x4)] [.int t1, .int t0] σ := by
  unfold m_X9_drawn_J96 at h
  refine ww_iadd C dX9_drawn_96 ?_
  refine ww_nmI h (fun y97 h => ?_)
  refine ww_istore_n (lv' := [(3, .int y97), (0, .ref 61), (1, .int a1), (2, .int x2), (4, .int x4)]) C dX9_drawn_97 rfl (by decide) rfl ?_
  refine ww_iload_n C 3 rfl dX9_drawn_98 ?_
  refine ww_aload_n C 1 rfl dX9_drawn_99 ?_
  refine ww_iconst (v := 1) C dX9_drawn_100 (by decide) ?_
  refine ww_vi (n := 1) (As := [.int 1]) (rest := [.int x2]) C (c_X9_feasibleOn hs h) (shc_61 hs) rfl nq_703 nq_704 nq_705 nq_5 nq_706 (by decide +kernel) rfl rfl ⟨Nat.le_of_ble_eq_true rfl, Nat.le_of_ble_eq_true rfl, Nat.le_of_ble_eq_true rfl, Nat.le_of_ble_eq_true rfl⟩ (Nat.le_of_ble_eq_true rfl) dX9_drawn_101 (fun r101 σ101 h => ?_)
  refine ww_aload_n C 1 rfl dX9_drawn_104 ?_
  refine ww_iconst (v := 1) C dX9_drawn_105 (by decide) ?_
  refine ww_bipush (v := 15) C dX9_drawn_106 (by decide) ?_
  refine ww_vi (n := 2) (As := [.int 1, .int 15]) (rest := [.int r101, .int x2]) C (c_X9_flaggedOn hs h) (shc_61 hs) rfl nq_699 nq_700 nq_701 nq_5 nq_702 (by decide +kernel) rfl rfl ⟨Nat.le_of_ble_eq_true rfl, Nat.le_of_ble_eq_true rfl, Nat.le_of_ble_eq_true rfl, Nat.le_of_ble_eq_true rfl⟩ (Nat.le_of_ble_eq_true rfl) dX9_drawn_108 (fun r108 σ108 h => ?_)
  refine ww_si (n := 1) (As := [.int r108]) (rest := [.int r101, .int x2]) C (c_X9_ones hs h) nq_780 nq_781 nq_5 nq_782 (by decide +kernel) rfl rfl ⟨Nat.le_of_ble_eq_true rfl, Nat.le_of_ble_eq_true rfl, Nat.le_of_ble_eq_true rfl, Nat.le_of_ble_eq_true rfl⟩ (Nat.le_of_ble_eq_true rfl) dX9_drawn_111 (fun r111 σ111 h => ?_)
  refine ww_iadd C dX9_drawn_114 ?_
  refine ww_iadd C dX9_drawn_115 ?_
  refine ww_nmI h (fun y116 h => ?_)
  refine ww_istore_n (lv' := [(2, .int y116), (3, .int y97), (0, .ref 61), (1, .int a1), (4, .int x4)]) C dX9_drawn_116 rfl (by decide) rfl ?_
  refine ww_iinc (v := (x4 + 1)) (lv' := [(4, .int (x4 + 1)), (2, .int y116), (3, .int y97), (0, .ref 61), (1, .int a1)]) C 4 rfl dX9_drawn_117 rfl (by decide) rfl ?_
  refine ww_goto (tgt := 28) C dX9_drawn_120 (by decide) ?_
  refine ww_sub [3, 4, 1, 2, 0] rfl ?_
  exact hRc _ _ _ _ h
set_option maxRecDepth 100000 in
set_option maxHeartbeats 4000000 in
theorem w_X9_drawn_J74 {p : Program} {l : Launch} {e : Env} {s : State} {m : MethodId} {args : Array Value} {below : List Frame} {meth : Method} {c : Code} {dC : Nat → ClassId} {dI : Nat → Nat → Nat} {cA : Nat → ClassId} {A : Nat → Prop} {al : Nat → Nat} {sh : List Kd} (C : Fx p s m args c cX9_drawn 6 yX9_drawn.cls dC dI cA A al) (hr : meth.sig.returnType = some .int) (hlk : meth.locks = false) (hs : ShC sh) {a1 : Int32} {Q : Int32 → St → Prop} {K123 : St → Int32 → Int32 → Prop} (hK123 : ∀ (σ : St) (x2 : Int32) (x3 : Int32), K123 σ x2 x3 → WW p l e (RM 8) s m args below meth c (MQ below (va_Qi Q (WPost dC dI cA al sh A) A) args s 0 0 A) dC dI cA A 6 0 0 al sh 123 [(2, .int x2), (3, .int x3)] [] σ) {Rc : St → Int32 → Int32 → Int32 → Prop} (hRc : ∀ (σ : St) (x2 : Int32) (x3 : Int32) (x4 : Int32), Rc σ x2 x3 x4 → WW p l e (RM 8) s m args below meth c (MQ below (va_Qi Q (WPost dC dI cA al sh A) A) args s 0 0 A) dC dI cA A 6 0 0 al sh 28 [(0, .ref 61), (1, .int a1), (2, .int x2), (3, .int x3), (4, .int x4)] [] σ) {σ : St} {x2 : Int32} {x3 : Int32} {x4 : Int32} {t0 : Int64} {t1 : Int32} (h : m_X9_drawn_J74 a1 Q K123 Rc σ x2 x3 x4 t0 t1) : WW p l e (RM 8) s m args below meth c (MQ below (va_Qi Q (WPost dC dI cA al sh A) A) args s 0 0 A) dC dI cA A 6 0 0 al sh 74 [(0, .ref 61), (1, .int a1), (2, .int x2), (3, .int x3), (4, .int x4)] [.int t1, .long t0] σ := by
  unfold m_X9_drawn_J74 at h
  refine ww_i2l C dX9_drawn_74 ?_
  refine ww_lrem C dX9_drawn_75 h.1 ?_
  have h := h.2
  refine ww_l2i C dX9_drawn_76 ?_
  refine ww_nmI h (fun y77 h => ?_)
  refine ww_istore (lv' := [(5, .int y77), (0, .ref 61), (1, .int a1), (2, .int x2), (3, .int x3), (4, .int x4)]) C dX9_drawn_77 (by decide) rfl ?_
  refine ww_iload_n C 4 rfl dX9_drawn_79 ?_
  refine ww_aload_n C 1 rfl dX9_drawn_80 ?_
  refine ww_iconst (v := 1) C dX9_drawn_81 (by decide) ?_
  refine ww_iload C 0 rfl dX9_drawn_82 ?_
  refine ww_iconst (v := 0) C dX9_drawn_84 (by decide) ?_
  refine ww_vi (n := 3) (As := [.int 1, .int y77, .int 0]) (rest := [.int x3]) C (c_X9_tryThing hs h) (shc_61 hs) rfl nq_691 nq_692 nq_693 nq_5 nq_694 (by decide +kernel) rfl rfl ⟨Nat.le_of_ble_eq_true rfl, Nat.le_of_ble_eq_true rfl, Nat.le_of_ble_eq_true rfl, Nat.le_of_ble_eq_true rfl⟩ (Nat.le_of_ble_eq_true rfl) dX9_drawn_85 (fun r85 σ85 h => ?_)
  refine ww_if_eq (tgt := 95) C dX9_drawn_88 (by decide) (fun hc => ?_) (fun hc => ?_)
  · have h := h.1 hc
    refine ww_iconst (v := 0) C dX9_drawn_95 (by decide) ?_
    refine ww_sub [1, 2, 3, 5] rfl ?_
    exact w_X9_drawn_J96 (Q := Q) (a1 := a1) C hr hlk hs hK123 hRc h
  · have h := h.2 hc
    refine ww_iconst (v := 1) C dX9_drawn_91 (by decide) ?_
    refine ww_goto (tgt := 96) C dX9_drawn_92 (by decide) ?_
    refine ww_sub [1, 2, 3, 5] rfl ?_
    exact w_X9_drawn_J96 (Q := Q) (a1 := a1) C hr hlk hs hK123 hRc h
set_option maxRecDepth 100000 in
set_option maxHeartbeats 4000000 in
theorem w_X9_drawn_L28b {p : Program} {l : Launch} {e : Env} {s : State} {m : MethodId} {args : Array Value} {below : List Frame} {meth : Method} {c : Code} {dC : Nat → ClassId} {dI : Nat → Nat → Nat} {cA : Nat → ClassId} {A : Nat → Prop} {al : Nat → Nat} {sh : List Kd} (C : Fx p s m args c cX9_drawn 6 yX9_drawn.cls dC dI cA A al) (hr : meth.sig.returnType = some .int) (hlk : meth.locks = false) (hs : ShC sh) {a1 : Int32} {Q : Int32 → St → Prop} {K123 : St → Int32 → Int32 → Prop} (hK123 : ∀ (σ : St) (x2 : Int32) (x3 : Int32), K123 σ x2 x3 → WW p l e (RM 8) s m args below meth c (MQ below (va_Qi Q (WPost dC dI cA al sh A) A) args s 0 0 A) dC dI cA A 6 0 0 al sh 123 [(2, .int x2), (3, .int x3)] [] σ) {Rc : St → Int32 → Int32 → Int32 → Prop} (hRc : ∀ (σ : St) (x2 : Int32) (x3 : Int32) (x4 : Int32), Rc σ x2 x3 x4 → WW p l e (RM 8) s m args below meth c (MQ below (va_Qi Q (WPost dC dI cA al sh A) A) args s 0 0 A) dC dI cA A 6 0 0 al sh 28 [(0, .ref 61), (1, .int a1), (2, .int x2), (3, .int x3), (4, .int x4)] [] σ) {σ : St} {x2 : Int32} {x3 : Int32} {x4 : Int32} (h : m_X9_drawn_L28b a1 Q K123 Rc σ x2 x3 x4) : WW p l e (RM 8) s m args below meth c (MQ below (va_Qi Q (WPost dC dI cA al sh A) A) args s 0 0 A) dC dI cA A 6 0 0 al sh 28 [(0, .ref 61), (1, .int a1), (2, .int x2), (3, .int x3), (4, .int x4)] [] σ := by
  unfold m_X9_drawn_L28b at h
  refine ww_iload C 4 rfl dX9_drawn_28 ?_
  refine ww_iload_n C 1 rfl dX9_drawn_30 ?_
  refine ww_icmp_ge (tgt := 123) C dX9_drawn_31 (by decide) (fun hc => ?_) (fun hc => ?_)
  · have h := h.1 hc
    refine ww_sub [2, 3] rfl ?_
    exact hK123 _ _ _ h
  · have h := h.2 hc
    refine ww_aload_n C 0 rfl dX9_drawn_34 ?_
    refine ww_aload_n C 0 rfl dX9_drawn_35 ?_
    refine ww_getL C (shc_61 hs) rfl inG9 36 (by decide) nq_828 rfl dX9_drawn_36 ?_
    refine ww_ldc2 (v := 6364136223846793005) C nq_847 dX9_drawn_39 ?_
    refine ww_lmul C dX9_drawn_42 ?_
    refine ww_ldc2 (v := 1442695040888963407) C nq_848 dX9_drawn_43 ?_
    refine ww_ladd C dX9_drawn_46 ?_
    refine ww_putL C (shc_61 hs) rfl inG9 36 (by decide) nq_828 tyX9 tyX9_ok nmX9 rfl (by decide +kernel) rfl dX9_drawn_47 h (fun σ47 h => ?_)
    refine ww_aload_n C 0 rfl dX9_drawn_50 ?_
    refine ww_getL C (shc_61 hs) rfl inG9 36 (by decide) nq_828 rfl dX9_drawn_51 ?_
    refine ww_bipush (v := 33) C dX9_drawn_54 (by decide) ?_
    refine ww_lushr C dX9_drawn_56 ?_
    refine ww_aload_n C 0 rfl dX9_drawn_57 ?_
    refine ww_iconst (v := 1) C dX9_drawn_58 (by decide) ?_
    refine ww_vi (n := 1) (As := [.int 1]) (rest := [.long (((σ47.2 61 36).toUInt64 >>> ((33 : Int32).toInt64.toUInt64 &&& Int64.toUInt64 63)).toInt64)]) C (c_X9_many hs h) (shc_61 hs) rfl nq_291 nq_292 nq_293 nq_5 nq_294 (by decide +kernel) rfl rfl ⟨Nat.le_of_ble_eq_true rfl, Nat.le_of_ble_eq_true rfl, Nat.le_of_ble_eq_true rfl, Nat.le_of_ble_eq_true rfl⟩ (Nat.le_of_ble_eq_true rfl) dX9_drawn_59 (fun r59 σ59 h => ?_)
    refine ww_if_ne (tgt := 69) C dX9_drawn_62 (by decide) (fun hc => ?_) (fun hc => ?_)
    · have h := h.1 hc
      refine ww_aload_n C 0 rfl dX9_drawn_69 ?_
      refine ww_iconst (v := 1) C dX9_drawn_70 (by decide) ?_
      refine ww_vi (n := 1) (As := [.int 1]) (rest := [.long (((σ47.2 61 36).toUInt64 >>> ((33 : Int32).toInt64.toUInt64 &&& Int64.toUInt64 63)).toInt64)]) C (c_X9_many hs h) (shc_61 hs) rfl nq_291 nq_292 nq_293 nq_5 nq_294 (by decide +kernel) rfl rfl ⟨Nat.le_of_ble_eq_true rfl, Nat.le_of_ble_eq_true rfl, Nat.le_of_ble_eq_true rfl, Nat.le_of_ble_eq_true rfl⟩ (Nat.le_of_ble_eq_true rfl) dX9_drawn_71 (fun r71 σ71 h => ?_)
      exact w_X9_drawn_J74 (Q := Q) (a1 := a1) C hr hlk hs hK123 hRc h
    · have h := h.2 hc
      refine ww_iconst (v := 1) C dX9_drawn_65 (by decide) ?_
      refine ww_goto (tgt := 74) C dX9_drawn_66 (by decide) ?_
      exact w_X9_drawn_J74 (Q := Q) (a1 := a1) C hr hlk hs hK123 hRc h
set_option maxRecDepth 100000 in
set_option maxHeartbeats 4000000 in
theorem w_X9_drawn_L28 {p : Program} {l : Launch} {e : Env} {s : State} {m : MethodId} {args : Array Value} {below : List Frame} {meth : Method} {c : Code} {dC : Nat → ClassId} {dI : Nat → Nat → Nat} {cA : Nat → ClassId} {A : Nat → Prop} {al : Nat → Nat} {sh : List Kd} (C : Fx p s m args c cX9_drawn 6 yX9_drawn.cls dC dI cA A al) (hr : meth.sig.returnType = some .int) (hlk : meth.locks = false) (hs : ShC sh) {a1 : Int32} {Q : Int32 → St → Prop} {K123 : St → Int32 → Int32 → Prop} (hK123 : ∀ (σ : St) (x2 : Int32) (x3 : Int32), K123 σ x2 x3 → WW p l e (RM 8) s m args below meth c (MQ below (va_Qi Q (WPost dC dI cA al sh A) A) args s 0 0 A) dC dI cA A 6 0 0 al sh 123 [(2, .int x2), (3, .int x3)] [] σ) : ∀ (f : Nat) (σ : St) (x2 : Int32) (x3 : Int32) (x4 : Int32), m_X9_drawn_L28 a1 Q K123 f σ x2 x3 x4 → WW p l e (RM 8) s m args below meth c (MQ below (va_Qi Q (WPost dC dI cA al sh A) A) args s 0 0 A) dC dI cA A 6 0 0 al sh 28 [(0, .ref 61), (1, .int a1), (2, .int x2), (3, .int x3), (4, .int x4)] [] σ := by
  intro f
  induction f with
  | zero => intro σ x2 x3 x4 h; exact False.elim h
  | succ f ih => intro σ x2 x3 x4 h; exact w_X9_drawn_L28b (Q := Q) (a1 := a1) C hr hlk hs hK123 ih h
set_option maxRecDepth 100000 in
set_option maxHeartbeats 4000000 in
theorem w_X9_drawn_J123 {p : Program} {l : Launch} {e : Env} {s : State} {m : MethodId} {args : Array Value} {below : List Frame} {meth : Method} {c : Code} {dC : Nat → ClassId} {dI : Nat → Nat → Nat} {cA : Nat → ClassId} {A : Nat → Prop} {al : Nat → Nat} {sh : List Kd} (C : Fx p s m args c cX9_drawn 6 yX9_drawn.cls dC dI cA A al) (hr : meth.sig.returnType = some .int) (hlk : meth.locks = false) (hs : ShC sh) {a1 : Int32} {Q : Int32 → St → Prop} {σ : St} {x2 : Int32} {x3 : Int32} (h : m_X9_drawn_J123 a1 Q σ x2 x3) : WW p l e (RM 8) s m args below meth c (MQ below (va_Qi Q (WPost dC dI cA al sh A) A) args s 0 0 A) dC dI cA A 6 0 0 al sh 123 [(2, .int x2), (3, .int x3)] [] σ := by
  unfold m_X9_drawn_J123 at h
  refine ww_iload_n C 1 rfl dX9_drawn_123 ?_
  refine ww_if_ge (tgt := 131) C dX9_drawn_124 (by decide) (fun hc => ?_) (fun hc => ?_)
  · have h := h.1 hc
    refine ww_iload_n C 0 rfl dX9_drawn_131 ?_
    exact ww_iret C hr hlk h dX9_drawn_132
  · have h := h.2 hc
    refine ww_iconst (v := 0) C dX9_drawn_127 (by decide) ?_
    refine ww_goto (tgt := 132) C dX9_drawn_128 (by decide) ?_
    exact ww_iret C hr hlk h dX9_drawn_132
set_option maxRecDepth 100000 in
set_option maxHeartbeats 4000000 in
theorem c_X9_drawn {l : Launch} {dC : Nat → ClassId} {dI : Nat → Nat → Nat} {cA : Nat → ClassId} {al : Nat → Nat} {sh : List Kd} (hs : ShC sh) {σ : St} {a1 : Int32} {Q : Int32 → St → Prop} (h : m_X9_drawn σ a1 Q) : ∀ sz, Met l yX9_drawn (wd yX9_drawn cX9_drawn 6 (some .int)) (RM 8) (va_Pc ([.ref 61, .int a1].map (cv al)) (WPre dC dI cA al sh σ sz)) (va_Qi Q (WPost dC dI cA al sh (AW al sh sz)) (AW al sh sz)) 0 0 (AW al sh sz) := by
  refine ww_met (Qc := fun A => va_Qi Q (WPost dC dI cA al sh A) A) (by decide +kernel) (Nat.le_of_ble_eq_true rfl) (fun p e s m args below meth c A C hr hlk => ?_)
  show WW p l e (RM 8) s m args below meth c (MQ below (va_Qi Q (WPost dC dI cA al sh A) A) args s 0 0 A) dC dI cA A 6 0 0 al sh 0 [(0, .ref 61), (1, .int a1)] [] σ
  unfold m_X9_drawn at h
  refine ww_iload_n C 1 rfl dX9_drawn_0 ?_
  refine ww_i2l C dX9_drawn_1 ?_
  refine ww_lconst (v := 1) C dX9_drawn_2 (by decide) ?_
  refine ww_ldc2 (v := 20) C nq_846 dX9_drawn_3 ?_
  refine ww_si (n := 3) (As := [.long (a1.toInt64), .long 1, .long 20]) (rest := []) C (c_X9_in hs h) nq_159 nq_160 nq_5 nq_161 (by decide +kernel) rfl rfl ⟨Nat.le_of_ble_eq_true rfl, Nat.le_of_ble_eq_true rfl, Nat.le_of_ble_eq_true rfl, Nat.le_of_ble_eq_true rfl⟩ (Nat.le_of_ble_eq_true rfl) dX9_drawn_6 (fun r6 σ6 h => ?_)
  refine ww_if_ne (tgt := 15) C dX9_drawn_9 (by decide) (fun hc => ?_) (fun hc => ?_)
  · have h := h.1 hc
    refine ww_aload_n C 0 rfl dX9_drawn_15 ?_
    refine ww_iconst (v := 1) C dX9_drawn_16 (by decide) ?_
    refine ww_iconst (v := 0) C dX9_drawn_17 (by decide) ?_
    refine ww_vv (n := 2) (As := [.int 1, .int 0]) (rest := []) C (c_X9_lay hs h) (shc_61 hs) rfl nq_368 nq_369 nq_370 nq_5 nq_371 (by decide +kernel) rfl rfl ⟨Nat.le_of_ble_eq_true rfl, Nat.le_of_ble_eq_true rfl, Nat.le_of_ble_eq_true rfl, Nat.le_of_ble_eq_true rfl⟩ (Nat.le_of_ble_eq_true rfl) dX9_drawn_18 (fun σ18 h => ?_)
    refine ww_iconst (v := 0) C dX9_drawn_21 (by decide) ?_
    refine ww_istore_n (lv' := [(2, .int 0), (0, .ref 61), (1, .int a1)]) C dX9_drawn_22 rfl (by decide) rfl ?_
    refine ww_iconst (v := 0) C dX9_drawn_23 (by decide) ?_
    refine ww_istore_n (lv' := [(3, .int 0), (2, .int 0), (0, .ref 61), (1, .int a1)]) C dX9_drawn_24 rfl (by decide) rfl ?_
    refine ww_iconst (v := 0) C dX9_drawn_25 (by decide) ?_
    refine ww_istore (lv' := [(4, .int 0), (3, .int 0), (2, .int 0), (0, .ref 61), (1, .int a1)]) C dX9_drawn_26 (by decide) rfl ?_
    refine ww_sub [3, 4, 2, 1, 0] rfl ?_
    obtain ⟨f, h⟩ := h
    exact w_X9_drawn_L28 (Q := Q) (a1 := a1) C hr hlk hs (fun σ x2 x3 h => by exact w_X9_drawn_J123 (Q := Q) (a1 := a1) C hr hlk hs h) f _ _ _ _ h
  · have h := h.2 hc
    refine ww_bipush (v := -2) C dX9_drawn_12 (by decide) ?_
    exact ww_iret C hr hlk h dX9_drawn_14
