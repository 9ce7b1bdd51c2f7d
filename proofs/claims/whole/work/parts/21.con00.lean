set_option maxRecDepth 100000 in
set_option maxHeartbeats 4000000 in
theorem w_X0_push_J57 {p : Program} {l : Launch} {e : Env} {s : State} {m : MethodId} {args : Array Value} {below : List Frame} {meth : Method} {c : Code} {dC : Nat → ClassId} {dI : Nat → Nat → Nat} {cA : Nat → ClassId} {A : Nat → Prop} {al : Nat → Nat} {sh : List Kd} (C : Fx p s m args c cX0_push 4 yX0_push.cls dC dI cA A al) (hr : meth.sig.returnType = none) (hlk : meth.locks = false) (hs : ShC sh) {a1 : Int32} {a2 : Int32} {Q : St → Prop} {σ : St} (h : m_X0_push_J57 a1 a2 Q σ) : WW p l e (RM 0) s m args below meth c (MQ below (va_Qv Q (WPost dC dI cA al sh A) A) args s 0 0 A) dC dI cA A 4 0 0 al sh 57 [(0, .ref 45), (1, .int a1), (2, .int a2)] [] σ := by
  unfold m_X0_push_J57 at h
  refine ww_aload_n C 0 rfl dX0_push_57 ?_
  refine ww_getR C (shc_45 hs) rfl inG0 1 (by decide) nq_90 rfl dX0_push_58 ?_
  refine ww_aload_n C 0 rfl dX0_push_61 ?_
  refine ww_getI C (shc_45 hs) rfl inG0 0 (by decide) nq_363 rfl dX0_push_62 ?_
  refine ww_iload_n C 1 rfl dX0_push_65 ?_
  refine ww_iast C (shc_46 hs) h.1 dX0_push_66 h.2 (fun σ66 h => ?_)
  refine ww_aload_n C 0 rfl dX0_push_67 ?_
  refine ww_getR C (shc_45 hs) rfl inG0 2 (by decide) nq_91 rfl dX0_push_68 ?_
  refine ww_aload_n C 0 rfl dX0_push_71 ?_
  refine ww_getI C (shc_45 hs) rfl inG0 0 (by decide) nq_363 rfl dX0_push_72 ?_
  refine ww_iload_n C 2 rfl dX0_push_75 ?_
  refine ww_iast C (shc_47 hs) h.1 dX0_push_76 h.2 (fun σ76 h => ?_)
  refine ww_aload_n C 0 rfl dX0_push_77 ?_
  refine ww_dup C rfl dX0_push_78 ?_
  refine ww_getI C (shc_45 hs) rfl inG0 0 (by decide) nq_363 rfl dX0_push_79 ?_
  refine ww_iconst (v := 1) C dX0_push_82 (by decide) ?_
  refine ww_iadd C dX0_push_83 ?_
  refine ww_putI C (shc_45 hs) rfl inG0 0 (by decide) nq_363 tyX0 tyX0_ok nmX0 rfl (by decide +kernel) rfl dX0_push_84 h (fun σ84 h => ?_)
  exact ww_vret C hr hlk h dX0_push_87
set_option maxRecDepth 100000 in
set_option maxHeartbeats 4000000 in
theorem w_X0_push_L11b {p : Program} {l : Launch} {e : Env} {s : State} {m : MethodId} {args : Array Value} {below : List Frame} {meth : Method} {c : Code} {dC : Nat → ClassId} {dI : Nat → Nat → Nat} {cA : Nat → ClassId} {A : Nat → Prop} {al : Nat → Nat} {sh : List Kd} (C : Fx p s m args c cX0_push 4 yX0_push.cls dC dI cA A al) (hr : meth.sig.returnType = none) (hlk : meth.locks = false) (hs : ShC sh) {a1 : Int32} {a2 : Int32} {Q : St → Prop} {K51 : St → Prop} (hK51 : ∀ (σ : St), K51 σ → WW p l e (RM 0) s m args below meth c (MQ below (va_Qv Q (WPost dC dI cA al sh A) A) args s 0 0 A) dC dI cA A 4 0 0 al sh 51 [(0, .ref 45), (1, .int a1), (2, .int a2)] [] σ) {Rc : St → Int32 → Prop} (hRc : ∀ (σ : St) (x3 : Int32), Rc σ x3 → WW p l e (RM 0) s m args below meth c (MQ below (va_Qv Q (WPost dC dI cA al sh A) A) args s 0 0 A) dC dI cA A 4 0 0 al sh 11 [(0, .ref 45), (1, .int a1), (2, .int a2), (3, .int x3)] [] σ) {σ : St} {x3 : Int32} (h : m_X0_push_L11b a1 a2 Q K51 Rc σ x3) : WW p l e (RM 0) s m args below meth c (MQ below (va_Qv Q (WPost dC dI cA al sh A) A) args s 0 0 A) dC dI cA A 4 0 0 al sh 11 [(0, .ref 45), (1, .int a1), (2, .int a2), (3, .int x3)] [] σ := by
  unfold m_X0_push_L11b at h
  refine ww_iload_n C 3 rfl dX0_push_11 ?_
  refine ww_bipush (v := 14) C dX0_push_12 (by decide) ?_
  refine ww_icmp_ge (tgt := 51) C dX0_push_14 (by decide) (fun hc => ?_) (fun hc => ?_)
  · have h := h.1 hc
    refine ww_sub [0, 1, 2] rfl ?_
    exact hK51 _ h
  · have h := h.2 hc
    refine ww_aload_n C 0 rfl dX0_push_17 ?_
    refine ww_getR C (shc_45 hs) rfl inG0 1 (by decide) nq_90 rfl dX0_push_18 ?_
    refine ww_iload_n C 3 rfl dX0_push_21 ?_
    refine ww_iconst (v := 1) C dX0_push_22 (by decide) ?_
    refine ww_isub C dX0_push_23 ?_
    refine ww_aload_n C 0 rfl dX0_push_24 ?_
    refine ww_getR C (shc_45 hs) rfl inG0 1 (by decide) nq_90 rfl dX0_push_25 ?_
    refine ww_iload_n C 3 rfl dX0_push_28 ?_
    refine ww_iald C (shc_46 hs) h.1 dX0_push_29 ?_
    have h := h.2
    refine ww_iast C (shc_46 hs) h.1 dX0_push_30 h.2 (fun σ30 h => ?_)
    refine ww_aload_n C 0 rfl dX0_push_31 ?_
    refine ww_getR C (shc_45 hs) rfl inG0 2 (by decide) nq_91 rfl dX0_push_32 ?_
    refine ww_iload_n C 3 rfl dX0_push_35 ?_
    refine ww_iconst (v := 1) C dX0_push_36 (by decide) ?_
    refine ww_isub C dX0_push_37 ?_
    refine ww_aload_n C 0 rfl dX0_push_38 ?_
    refine ww_getR C (shc_45 hs) rfl inG0 2 (by decide) nq_91 rfl dX0_push_39 ?_
    refine ww_iload_n C 3 rfl dX0_push_42 ?_
    refine ww_iald C (shc_47 hs) h.1 dX0_push_43 ?_
    have h := h.2
    refine ww_iast C (shc_47 hs) h.1 dX0_push_44 h.2 (fun σ44 h => ?_)
    refine ww_iinc (v := (x3 + 1)) (lv' := [(3, .int (x3 + 1)), (0, .ref 45), (1, .int a1), (2, .int a2)]) C 3 rfl dX0_push_45 rfl (by decide) rfl ?_
    refine ww_goto (tgt := 11) C dX0_push_48 (by decide) ?_
    refine ww_sub [1, 2, 3, 0] rfl ?_
    exact hRc _ _ h
set_option maxRecDepth 100000 in
set_option maxHeartbeats 4000000 in
theorem w_X0_push_L11 {p : Program} {l : Launch} {e : Env} {s : State} {m : MethodId} {args : Array Value} {below : List Frame} {meth : Method} {c : Code} {dC : Nat → ClassId} {dI : Nat → Nat → Nat} {cA : Nat → ClassId} {A : Nat → Prop} {al : Nat → Nat} {sh : List Kd} (C : Fx p s m args c cX0_push 4 yX0_push.cls dC dI cA A al) (hr : meth.sig.returnType = none) (hlk : meth.locks = false) (hs : ShC sh) {a1 : Int32} {a2 : Int32} {Q : St → Prop} {K51 : St → Prop} (hK51 : ∀ (σ : St), K51 σ → WW p l e (RM 0) s m args below meth c (MQ below (va_Qv Q (WPost dC dI cA al sh A) A) args s 0 0 A) dC dI cA A 4 0 0 al sh 51 [(0, .ref 45), (1, .int a1), (2, .int a2)] [] σ) : ∀ (f : Nat) (σ : St) (x3 : Int32), m_X0_push_L11 a1 a2 Q K51 f σ x3 → WW p l e (RM 0) s m args below meth c (MQ below (va_Qv Q (WPost dC dI cA al sh A) A) args s 0 0 A) dC dI cA A 4 0 0 al sh 11 [(0, .ref 45), (1, .int a1), (2, .int a2), (3, .int x3)] [] σ := by
  intro f
  induction f with
  | zero => intro σ x3 h; exact False.elim h
  | succ f ih => intro σ x3 h; exact w_X0_push_L11b (Q := Q) (a1 := a1) (a2 := a2) C hr hlk hs hK51 ih h
set_option maxRecDepth 100000 in
set_option maxHeartbeats 4000000 in
theorem w_X0_push_J51 {p : Program} {l : Launch} {e : Env} {s : State} {m : MethodId} {args : Array Value} {below : List Frame} {meth : Method} {c : Code} {dC : Nat → ClassId} {dI : Nat → Nat → Nat} {cA : Nat → ClassId} {A : Nat → Prop} {al : Nat → Nat} {sh : List Kd} (C : Fx p s m args c cX0_push 4 yX0_push.cls dC dI cA A al) (hr : meth.sig.returnType = none) (hlk : meth.locks = false) (hs : ShC sh) {a1 : Int32} {a2 : Int32} {Q : St → Prop} {σ : St} (h : m_X0_push_J51 a1 a2 Q σ) : WW p l e (RM 0) s m args below meth c (MQ below (va_Qv Q (WPost dC dI cA al sh A) A) args s 0 0 A) dC dI cA A 4 0 0 al sh 51 [(0, .ref 45), (1, .int a1), (2, .int a2)] [] σ := by
  unfold m_X0_push_J51 at h
  refine ww_aload_n C 0 rfl dX0_push_51 ?_
  refine ww_bipush (v := 13) C dX0_push_52 (by decide) ?_
  refine ww_putI C (shc_45 hs) rfl inG0 0 (by decide) nq_363 tyX0 tyX0_ok nmX0 rfl (by decide +kernel) rfl dX0_push_54 h (fun σ54 h => ?_)
  exact w_X0_push_J57 (Q := Q) (a1 := a1) (a2 := a2) C hr hlk hs h
set_option maxRecDepth 100000 in
set_option maxHeartbeats 4000000 in
theorem c_X0_push {l : Launch} {dC : Nat → ClassId} {dI : Nat → Nat → Nat} {cA : Nat → ClassId} {al : Nat → Nat} {sh : List Kd} (hs : ShC sh) {σ : St} {a1 : Int32} {a2 : Int32} {Q : St → Prop} (h : m_X0_push σ a1 a2 Q) : ∀ sz, Met l yX0_push (wd yX0_push cX0_push 4 none) (RM 0) (va_Pc ([.ref 45, .int a1, .int a2].map (cv al)) (WPre dC dI cA al sh σ sz)) (va_Qv Q (WPost dC dI cA al sh (AW al sh sz)) (AW al sh sz)) 0 0 (AW al sh sz) := by
  refine ww_met (Qc := fun A => va_Qv Q (WPost dC dI cA al sh A) A) (by decide +kernel) (Nat.le_of_ble_eq_true rfl) (fun p e s m args below meth c A C hr hlk => ?_)
  show WW p l e (RM 0) s m args below meth c (MQ below (va_Qv Q (WPost dC dI cA al sh A) A) args s 0 0 A) dC dI cA A 4 0 0 al sh 0 [(0, .ref 45), (1, .int a1), (2, .int a2)] [] σ
  unfold m_X0_push at h
  refine ww_aload_n C 0 rfl dX0_push_0 ?_
  refine ww_getI C (shc_45 hs) rfl inG0 0 (by decide) nq_363 rfl dX0_push_1 ?_
  refine ww_bipush (v := 14) C dX0_push_4 (by decide) ?_
  refine ww_icmp_lt (tgt := 57) C dX0_push_6 (by decide) (fun hc => ?_) (fun hc => ?_)
  · have h := h.1 hc
    exact w_X0_push_J57 (Q := Q) (a1 := a1) (a2 := a2) C hr hlk hs h
  · have h := h.2 hc
    refine ww_iconst (v := 1) C dX0_push_9 (by decide) ?_
    refine ww_istore_n (lv' := [(3, .int 1), (0, .ref 45), (1, .int a1), (2, .int a2)]) C dX0_push_10 rfl (by decide) rfl ?_
    refine ww_sub [1, 2, 3, 0] rfl ?_
    obtain ⟨f, h⟩ := h
    exact w_X0_push_L11 (Q := Q) (a1 := a1) (a2 := a2) C hr hlk hs (fun σ h => by exact w_X0_push_J51 (Q := Q) (a1 := a1) (a2 := a2) C hr hlk hs h) f _ _ h
set_option maxRecDepth 100000 in
set_option maxHeartbeats 4000000 in
theorem c_X4_exchange {l : Launch} {dC : Nat → ClassId} {dI : Nat → Nat → Nat} {cA : Nat → ClassId} {al : Nat → Nat} {sh : List Kd} {b0 : Nat} (hb0 : isRow sh b0) {σ : St} {a1 : Int32} {Q : St → Prop} (h : m_X4_exchange b0 σ a1 Q) : ∀ sz, Met l yX4_exchange (wd yX4_exchange cX4_exchange 3 none) (RM 0) (va_Pc ([.ref b0, .int a1].map (cv al)) (WPre dC dI cA al sh σ sz)) (va_Qv Q (WPost dC dI cA al sh (AW al sh sz)) (AW al sh sz)) 0 0 (AW al sh sz) := by
  refine ww_met (Qc := fun A => va_Qv Q (WPost dC dI cA al sh A) A) (by decide +kernel) (Nat.le_of_ble_eq_true rfl) (fun p e s m args below meth c A C hr hlk => ?_)
  show WW p l e (RM 0) s m args below meth c (MQ below (va_Qv Q (WPost dC dI cA al sh A) A) args s 0 0 A) dC dI cA A 3 0 0 al sh 0 [(0, .ref b0), (1, .int a1)] [] σ
  unfold m_X4_exchange at h
  refine ww_aload_n C 0 rfl dX4_exchange_0 ?_
  refine ww_getR C (row_o hb0) rfl inG4 1 (by decide) nq_52 rfl dX4_exchange_1 ?_
  refine ww_iload_n C 1 rfl dX4_exchange_4 ?_
  refine ww_iald C (row_1 hb0) h.1 dX4_exchange_5 ?_
  have h := h.2
  refine ww_nmI h (fun y6 h => ?_)
  refine ww_istore_n (lv' := [(2, .int y6), (0, .ref b0), (1, .int a1)]) C dX4_exchange_6 rfl (by decide) rfl ?_
  refine ww_aload_n C 1 rfl dX4_exchange_7 ?_
  refine ww_getR C (row_o hb0) rfl inG4 1 (by decide) nq_52 rfl dX4_exchange_8 ?_
  refine ww_iload_n C 2 rfl dX4_exchange_11 ?_
  refine ww_aload_n C 1 rfl dX4_exchange_12 ?_
  refine ww_getR C (row_o hb0) rfl inG4 1 (by decide) nq_52 rfl dX4_exchange_13 ?_
  refine ww_iload_n C 2 rfl dX4_exchange_16 ?_
  refine ww_iconst (v := 1) C dX4_exchange_17 (by decide) ?_
  refine ww_iadd C dX4_exchange_18 ?_
  refine ww_iald C (row_1 hb0) h.1 dX4_exchange_19 ?_
  have h := h.2
  refine ww_iast C (row_1 hb0) h.1 dX4_exchange_20 h.2 (fun σ20 h => ?_)
  refine ww_aload_n C 1 rfl dX4_exchange_21 ?_
  refine ww_getR C (row_o hb0) rfl inG4 1 (by decide) nq_52 rfl dX4_exchange_22 ?_
  refine ww_iload_n C 2 rfl dX4_exchange_25 ?_
  refine ww_iconst (v := 1) C dX4_exchange_26 (by decide) ?_
  refine ww_iadd C dX4_exchange_27 ?_
  refine ww_iload_n C 0 rfl dX4_exchange_28 ?_
  refine ww_iast C (row_1 hb0) h.1 dX4_exchange_29 h.2 (fun σ29 h => ?_)
  exact ww_vret C hr hlk h dX4_exchange_30
set_option maxRecDepth 100000 in
set_option maxHeartbeats 4000000 in
theorem c_X4_hasPair {l : Launch} {dC : Nat → ClassId} {dI : Nat → Nat → Nat} {cA : Nat → ClassId} {al : Nat → Nat} {sh : List Kd} {b0 : Nat} (hb0 : isRow sh b0) {σ : St} {a1 : Int32} {Q : Int32 → St → Prop} (h : m_X4_hasPair b0 σ a1 Q) : ∀ sz, Met l yX4_hasPair (wd yX4_hasPair cX4_hasPair 2 (some .boolean)) (RM 0) (va_Pc ([.ref b0, .int a1].map (cv al)) (WPre dC dI cA al sh σ sz)) (va_Qi Q (WPost dC dI cA al sh (AW al sh sz)) (AW al sh sz)) 0 0 (AW al sh sz) := by
  refine ww_met (Qc := fun A => va_Qi Q (WPost dC dI cA al sh A) A) (by decide +kernel) (Nat.le_of_ble_eq_true rfl) (fun p e s m args below meth c A C hr hlk => ?_)
  show WW p l e (RM 0) s m args below meth c (MQ below (va_Qi Q (WPost dC dI cA al sh A) A) args s 0 0 A) dC dI cA A 2 0 0 al sh 0 [(0, .ref b0), (1, .int a1)] [] σ
  unfold m_X4_hasPair at h
  refine ww_iload_n C 1 rfl dX4_hasPair_0 ?_
  refine ww_if_lt (tgt := 18) C dX4_hasPair_1 (by decide) (fun hc => ?_) (fun hc => ?_)
  · have h := h.1 hc
    refine ww_iconst (v := 0) C dX4_hasPair_18 (by decide) ?_
    exact ww_zret C hr hlk (by decide) h dX4_hasPair_19
  · have h := h.2 hc
    refine ww_iload_n C 1 rfl dX4_hasPair_4 ?_
    refine ww_aload_n C 0 rfl dX4_hasPair_5 ?_
    refine ww_getI C (row_o hb0) rfl inG4 0 (by decide) nq_82 rfl dX4_hasPair_6 ?_
    refine ww_iconst (v := 1) C dX4_hasPair_9 (by decide) ?_
    refine ww_isub C dX4_hasPair_10 ?_
    refine ww_icmp_ge (tgt := 18) C dX4_hasPair_11 (by decide) (fun hc => ?_) (fun hc => ?_)
    · have h := h.1 hc
      refine ww_iconst (v := 0) C dX4_hasPair_18 (by decide) ?_
      exact ww_zret C hr hlk (by decide) h dX4_hasPair_19
    · have h := h.2 hc
      refine ww_iconst (v := 1) C dX4_hasPair_14 (by decide) ?_
      refine ww_goto (tgt := 19) C dX4_hasPair_15 (by decide) ?_
      exact ww_zret C hr hlk (by decide) h dX4_hasPair_19
set_option maxRecDepth 100000 in
set_option maxHeartbeats 4000000 in
theorem w_J7_fill_53178_L5b {p : Program} {l : Launch} {e : Env} {s : State} {m : MethodId} {args : Array Value} {below : List Frame} {meth : Method} {c : Code} {dC : Nat → ClassId} {dI : Nat → Nat → Nat} {cA : Nat → ClassId} {A : Nat → Prop} {al : Nat → Nat} {sh : List Kd} (C : Fx p s m args c cJ7_fill_53178 4 yJ7_fill_53178.cls dC dI cA A al) (hr : meth.sig.returnType = none) (hlk : meth.locks = false) {q0 : Nat} {n0 : Nat} (hq0 : sh[q0]? = some (.inl (0, n0, []))) {a1 : Int32} {Q : St → Prop} {x3 : Int32} {K20 : St → Prop} (hK20 : ∀ (σ : St), K20 σ → WW p l e (RM 0) s m args below meth c (MQ below (va_Qv Q (WPost dC dI cA al sh A) A) args s 0 0 A) dC dI cA A 4 0 0 al sh 20 [] [] σ) {Rc : St → Int32 → Prop} (hRc : ∀ (σ : St) (x2 : Int32), Rc σ x2 → WW p l e (RM 0) s m args below meth c (MQ below (va_Qv Q (WPost dC dI cA al sh A) A) args s 0 0 A) dC dI cA A 4 0 0 al sh 5 [(0, .ref q0), (1, .int a1), (2, .int x2), (3, .int x3)] [] σ) {σ : St} {x2 : Int32} (h : m_J7_fill_53178_L5b q0 n0 a1 Q x3 K20 Rc σ x2) : WW p l e (RM 0) s m args below meth c (MQ below (va_Qv Q (WPost dC dI cA al sh A) A) args s 0 0 A) dC dI cA A 4 0 0 al sh 5 [(0, .ref q0), (1, .int a1), (2, .int x2), (3, .int x3)] [] σ := by
  unfold m_J7_fill_53178_L5b at h
  refine ww_iload_n C 2 rfl dJ7_fill_53178_5 ?_
  refine ww_iload_n C 3 rfl dJ7_fill_53178_6 ?_
  refine ww_icmp_ge (tgt := 20) C dJ7_fill_53178_7 (by decide) (fun hc => ?_) (fun hc => ?_)
  · have h := h.1 hc
    refine ww_sub [] rfl ?_
    exact hK20 _ h
  · have h := h.2 hc
    refine ww_aload_n C 0 rfl dJ7_fill_53178_10 ?_
    refine ww_iload_n C 2 rfl dJ7_fill_53178_11 ?_
    refine ww_iload_n C 1 rfl dJ7_fill_53178_12 ?_
    refine ww_iast C hq0 h.1 dJ7_fill_53178_13 h.2 (fun σ13 h => ?_)
    refine ww_iinc (v := (x2 + 1)) (lv' := [(2, .int (x2 + 1)), (0, .ref q0), (1, .int a1), (3, .int x3)]) C 2 rfl dJ7_fill_53178_14 rfl (by decide) rfl ?_
    refine ww_goto (tgt := 5) C dJ7_fill_53178_17 (by decide) ?_
    refine ww_sub [1, 2, 0, 3] rfl ?_
    exact hRc _ _ h
set_option maxRecDepth 100000 in
set_option maxHeartbeats 4000000 in
theorem w_J7_fill_53178_L5 {p : Program} {l : Launch} {e : Env} {s : State} {m : MethodId} {args : Array Value} {below : List Frame} {meth : Method} {c : Code} {dC : Nat → ClassId} {dI : Nat → Nat → Nat} {cA : Nat → ClassId} {A : Nat → Prop} {al : Nat → Nat} {sh : List Kd} (C : Fx p s m args c cJ7_fill_53178 4 yJ7_fill_53178.cls dC dI cA A al) (hr : meth.sig.returnType = none) (hlk : meth.locks = false) {q0 : Nat} {n0 : Nat} (hq0 : sh[q0]? = some (.inl (0, n0, []))) {a1 : Int32} {Q : St → Prop} {x3 : Int32} {K20 : St → Prop} (hK20 : ∀ (σ : St), K20 σ → WW p l e (RM 0) s m args below meth c (MQ below (va_Qv Q (WPost dC dI cA al sh A) A) args s 0 0 A) dC dI cA A 4 0 0 al sh 20 [] [] σ) : ∀ (f : Nat) (σ : St) (x2 : Int32), m_J7_fill_53178_L5 q0 n0 a1 Q x3 K20 f σ x2 → WW p l e (RM 0) s m args below meth c (MQ below (va_Qv Q (WPost dC dI cA al sh A) A) args s 0 0 A) dC dI cA A 4 0 0 al sh 5 [(0, .ref q0), (1, .int a1), (2, .int x2), (3, .int x3)] [] σ := by
  intro f
  induction f with
  | zero => intro σ x2 h; exact False.elim h
  | succ f ih => intro σ x2 h; exact w_J7_fill_53178_L5b (Q := Q) (a1 := a1) C hr hlk hq0 hK20 ih h
set_option maxRecDepth 100000 in
set_option maxHeartbeats 4000000 in
theorem w_J7_fill_53178_J20 {p : Program} {l : Launch} {e : Env} {s : State} {m : MethodId} {args : Array Value} {below : List Frame} {meth : Method} {c : Code} {dC : Nat → ClassId} {dI : Nat → Nat → Nat} {cA : Nat → ClassId} {A : Nat → Prop} {al : Nat → Nat} {sh : List Kd} (C : Fx p s m args c cJ7_fill_53178 4 yJ7_fill_53178.cls dC dI cA A al) (hr : meth.sig.returnType = none) (hlk : meth.locks = false) {q0 : Nat} {n0 : Nat} (hq0 : sh[q0]? = some (.inl (0, n0, []))) {a1 : Int32} {Q : St → Prop} {σ : St} (h : m_J7_fill_53178_J20 q0 n0 a1 Q σ) : WW p l e (RM 0) s m args below meth c (MQ below (va_Qv Q (WPost dC dI cA al sh A) A) args s 0 0 A) dC dI cA A 4 0 0 al sh 20 [] [] σ := by
  unfold m_J7_fill_53178_J20 at h
  exact ww_vret C hr hlk h dJ7_fill_53178_20
set_option maxRecDepth 100000 in
set_option maxHeartbeats 4000000 in
theorem c_J7_fill_53178 {l : Launch} {dC : Nat → ClassId} {dI : Nat → Nat → Nat} {cA : Nat → ClassId} {al : Nat → Nat} {sh : List Kd} {q0 : Nat} {n0 : Nat} (hq0 : sh[q0]? = some (.inl (0, n0, []))) {σ : St} {a1 : Int32} {Q : St → Prop} (h : m_J7_fill_53178 q0 n0 σ a1 Q) : ∀ sz, Met l yJ7_fill_53178 (wd yJ7_fill_53178 cJ7_fill_53178 4 none) (RM 0) (va_Pc ([.ref q0, .int a1].map (cv al)) (WPre dC dI cA al sh σ sz)) (va_Qv Q (WPost dC dI cA al sh (AW al sh sz)) (AW al sh sz)) 0 0 (AW al sh sz) := by
  refine ww_met (Qc := fun A => va_Qv Q (WPost dC dI cA al sh A) A) (by decide +kernel) (Nat.le_of_ble_eq_true rfl) (fun p e s m args below meth c A C hr hlk => ?_)
  show WW p l e (RM 0) s m args below meth c (MQ below (va_Qv Q (WPost dC dI cA al sh A) A) args s 0 0 A) dC dI cA A 4 0 0 al sh 0 [(0, .ref q0), (1, .int a1)] [] σ
  unfold m_J7_fill_53178 at h
  refine ww_iconst (v := 0) C dJ7_fill_53178_0 (by decide) ?_
  refine ww_istore_n (lv' := [(2, .int 0), (0, .ref q0), (1, .int a1)]) C dJ7_fill_53178_1 rfl (by decide) rfl ?_
  refine ww_aload_n C 1 rfl dJ7_fill_53178_2 ?_
  refine ww_alen C (by decide) hq0 dJ7_fill_53178_3 ?_
  refine ww_nmI h (fun y4 h => ?_)
  refine ww_istore_n (lv' := [(3, .int y4), (2, .int 0), (0, .ref q0), (1, .int a1)]) C dJ7_fill_53178_4 rfl (by decide) rfl ?_
  refine ww_sub [2, 3, 1, 0] rfl ?_
  obtain ⟨f, h⟩ := h
  exact w_J7_fill_53178_L5 (Q := Q) (a1 := a1) C hr hlk hq0 (fun σ h => by exact w_J7_fill_53178_J20 (Q := Q) (a1 := a1) C hr hlk hq0 h) f _ _ h
set_option maxRecDepth 100000 in
set_option maxHeartbeats 4000000 in
theorem c_X7_begin {l : Launch} {dC : Nat → ClassId} {dI : Nat → Nat → Nat} {cA : Nat → ClassId} {al : Nat → Nat} {sh : List Kd} {w0 : Nat} (hw0 : isWld sh w0) {σ : St} {Q : St → Prop} (h : m_X7_begin w0 σ Q) : ∀ sz, Met l yX7_begin (wd yX7_begin cX7_begin 1 none) (RM 1) (va_Pc ([.ref w0].map (cv al)) (WPre dC dI cA al sh σ sz)) (va_Qv Q (WPost dC dI cA al sh (AW al sh sz)) (AW al sh sz)) 0 0 (AW al sh sz) := by
  refine ww_met (Qc := fun A => va_Qv Q (WPost dC dI cA al sh A) A) (by decide +kernel) (Nat.le_of_ble_eq_true rfl) (fun p e s m args below meth c A C hr hlk => ?_)
  show WW p l e (RM 1) s m args below meth c (MQ below (va_Qv Q (WPost dC dI cA al sh A) A) args s 0 0 A) dC dI cA A 1 0 0 al sh 0 [(0, .ref w0)] [] σ
  unfold m_X7_begin at h
  refine ww_aload_n C 0 rfl dX7_begin_0 ?_
  refine ww_iconst (v := 1) C dX7_begin_1 (by decide) ?_
  refine ww_putI C (wld_o hw0) rfl inG7 0 (by decide) nq_72 tyX7 tyX7_ok nmX7 rfl (by decide +kernel) rfl dX7_begin_2 h (fun σ2 h => ?_)
  refine ww_aload_n C 0 rfl dX7_begin_5 ?_
  refine ww_iconst (v := 0) C dX7_begin_6 (by decide) ?_
  refine ww_putI C (wld_o hw0) rfl inG7 1 (by decide) nq_73 tyX7 tyX7_ok nmX7 rfl (by decide +kernel) rfl dX7_begin_7 h (fun σ7 h => ?_)
  refine ww_aload_n C 0 rfl dX7_begin_10 ?_
  refine ww_getR C (wld_o hw0) rfl inG7 2 (by decide) nq_66 rfl dX7_begin_11 ?_
  refine ww_iconst (v := 0) C dX7_begin_14 (by decide) ?_
  refine ww_sv (n := 2) (As := [.ref (w0 + 1), .int 0]) (rest := []) C (c_J7_fill_53178 (wld_1 hw0) h) nq_74 nq_75 nq_76 nq_77 (by decide +kernel) rfl rfl ⟨Nat.le_of_ble_eq_true rfl, Nat.le_of_ble_eq_true rfl, Nat.le_of_ble_eq_true rfl, Nat.le_of_ble_eq_true rfl⟩ (Nat.le_of_ble_eq_true rfl) dX7_begin_15 (fun σ15 h => ?_)
  refine ww_aload_n C 0 rfl dX7_begin_18 ?_
  refine ww_getR C (wld_o hw0) rfl inG7 3 (by decide) nq_67 rfl dX7_begin_19 ?_
  refine ww_iconst (v := 0) C dX7_begin_22 (by decide) ?_
  refine ww_sv (n := 2) (As := [.ref (w0 + 2), .int 0]) (rest := []) C (c_J7_fill_53178 (wld_2 hw0) h) nq_74 nq_75 nq_76 nq_77 (by decide +kernel) rfl rfl ⟨Nat.le_of_ble_eq_true rfl, Nat.le_of_ble_eq_true rfl, Nat.le_of_ble_eq_true rfl, Nat.le_of_ble_eq_true rfl⟩ (Nat.le_of_ble_eq_true rfl) dX7_begin_23 (fun σ23 h => ?_)
  exact ww_vret C hr hlk h dX7_begin_26
set_option maxRecDepth 100000 in
set_option maxHeartbeats 4000000 in
theorem c_X4_begin {l : Launch} {dC : Nat → ClassId} {dI : Nat → Nat → Nat} {cA : Nat → ClassId} {al : Nat → Nat} {sh : List Kd} {b0 : Nat} (hb0 : isRow sh b0) {σ : St} {Q : St → Prop} (h : m_X4_begin b0 σ Q) : ∀ sz, Met l yX4_begin (wd yX4_begin cX4_begin 1 none) (RM 2) (va_Pc ([.ref b0].map (cv al)) (WPre dC dI cA al sh σ sz)) (va_Qv Q (WPost dC dI cA al sh (AW al sh sz)) (AW al sh sz)) 0 0 (AW al sh sz) := by
  refine ww_met (Qc := fun A => va_Qv Q (WPost dC dI cA al sh A) A) (by decide +kernel) (Nat.le_of_ble_eq_true rfl) (fun p e s m args below meth c A C hr hlk => ?_)
  show WW p l e (RM 2) s m args below meth c (MQ below (va_Qv Q (WPost dC dI cA al sh A) A) args s 0 0 A) dC dI cA A 1 0 0 al sh 0 [(0, .ref b0)] [] σ
  unfold m_X4_begin at h
  refine ww_aload_n C 0 rfl dX4_begin_0 ?_
  refine ww_iconst (v := 0) C dX4_begin_1 (by decide) ?_
  refine ww_putI C (row_o hb0) rfl inG4 0 (by decide) nq_82 tyX4 tyX4_ok nmX4 rfl (by decide +kernel) rfl dX4_begin_2 h (fun σ2 h => ?_)
  refine ww_aload_n C 0 rfl dX4_begin_5 ?_
  refine ww_iconst (v := 0) C dX4_begin_6 (by decide) ?_
  refine ww_putI C (row_o hb0) rfl inG4 7 (by decide) nq_83 tyX4 tyX4_ok nmX4 rfl (by decide +kernel) rfl dX4_begin_7 h (fun σ7 h => ?_)
  refine ww_aload_n C 0 rfl dX4_begin_10 ?_
  refine ww_getR C (row_o hb0) rfl inG4 6 (by decide) nq_57 rfl dX4_begin_11 ?_
  refine ww_iconst (v := 0) C dX4_begin_14 (by decide) ?_
  refine ww_sv (n := 2) (As := [.ref (b0 + 6), .int 0]) (rest := []) C (c_J7_fill_53178 (row_6 hb0) h) nq_84 nq_75 nq_76 nq_77 (by decide +kernel) rfl rfl ⟨Nat.le_of_ble_eq_true rfl, Nat.le_of_ble_eq_true rfl, Nat.le_of_ble_eq_true rfl, Nat.le_of_ble_eq_true rfl⟩ (Nat.le_of_ble_eq_true rfl) dX4_begin_15 (fun σ15 h => ?_)
  refine ww_aload_n C 0 rfl dX4_begin_18 ?_
  refine ww_getR C (row_o hb0) rfl inG4 8 (by decide) nq_61 rfl dX4_begin_19 ?_
  refine ww_vv (n := 0) (As := []) (rest := []) C (c_X7_begin (row_w hb0) h) (wld_o (row_w hb0)) rfl nq_85 nq_69 nq_70 nq_60 nq_71 (by decide +kernel) rfl rfl ⟨Nat.le_of_ble_eq_true rfl, Nat.le_of_ble_eq_true rfl, Nat.le_of_ble_eq_true rfl, Nat.le_of_ble_eq_true rfl⟩ (Nat.le_of_ble_eq_true rfl) dX4_begin_22 (fun σ22 h => ?_)
  exact ww_vret C hr hlk h dX4_begin_25
set_option maxRecDepth 100000 in
set_option maxHeartbeats 4000000 in
theorem w_X4_order_J37 {p : Program} {l : Launch} {e : Env} {s : State} {m : MethodId} {args : Array Value} {below : List Frame} {meth : Method} {c : Code} {dC : Nat → ClassId} {dI : Nat → Nat → Nat} {cA : Nat → ClassId} {A : Nat → Prop} {al : Nat → Nat} {sh : List Kd} (C : Fx p s m args c cX4_order 5 yX4_order.cls dC dI cA A al) (hr : meth.sig.returnType = none) (hlk : meth.locks = false) {b0 : Nat} (hb0 : isRow sh b0) {a1 : Int32} {a2 : Int32} {a3 : Int32} {Q : St → Prop} {σ : St} {x4 : Int32} (h : m_X4_order_J37 b0 a1 a2 a3 Q σ x4) : WW p l e (RM 0) s m args below meth c (MQ below (va_Qv Q (WPost dC dI cA al sh A) A) args s 0 0 A) dC dI cA A 5 0 0 al sh 37 [(0, .ref b0), (1, .int a1), (2, .int a2), (3, .int a3), (4, .int x4)] [] σ := by
  unfold m_X4_order_J37 at h
  refine ww_aload_n C 0 rfl dX4_order_37 ?_
  refine ww_getR C (row_o hb0) rfl inG4 5 (by decide) nq_56 rfl dX4_order_38 ?_
  refine ww_aload_n C 0 rfl dX4_order_41 ?_
  refine ww_getI C (row_o hb0) rfl inG4 0 (by decide) nq_82 rfl dX4_order_42 ?_
  refine ww_iload C 4 rfl dX4_order_45 ?_
  refine ww_iast C (row_5 hb0) h.1 dX4_order_47 h.2 (fun σ47 h => ?_)
  refine ww_aload_n C 0 rfl dX4_order_48 ?_
  refine ww_getR C (row_o hb0) rfl inG4 6 (by decide) nq_57 rfl dX4_order_49 ?_
  refine ww_iload_n C 1 rfl dX4_order_52 ?_
  refine ww_iload C 4 rfl dX4_order_53 ?_
  refine ww_iconst (v := 1) C dX4_order_55 (by decide) ?_
  refine ww_aload_n C 0 rfl dX4_order_56 ?_
  refine ww_getI C (row_o hb0) rfl inG4 0 (by decide) nq_82 rfl dX4_order_57 ?_
  refine ww_ishl C dX4_order_60 ?_
  refine ww_ior C dX4_order_61 ?_
  refine ww_iast C (row_6 hb0) h.1 dX4_order_62 h.2 (fun σ62 h => ?_)
  refine ww_iload_n C 2 rfl dX4_order_63 ?_
  refine ww_bipush (v := 102) C dX4_order_64 (by decide) ?_
  refine ww_icmp_ne (tgt := 81) C dX4_order_66 (by decide) (fun hc => ?_) (fun hc => ?_)
  · have h := h.1 hc
    refine ww_aload_n C 0 rfl dX4_order_81 ?_
    refine ww_dup C rfl dX4_order_82 ?_
    refine ww_getI C (row_o hb0) rfl inG4 7 (by decide) nq_83 rfl dX4_order_83 ?_
    refine ww_iconst (v := 1) C dX4_order_86 (by decide) ?_
    refine ww_iload_n C 1 rfl dX4_order_87 ?_
    refine ww_ishl C dX4_order_88 ?_
    refine ww_ior C dX4_order_89 ?_
    refine ww_putI C (row_o hb0) rfl inG4 7 (by decide) nq_83 tyX4 tyX4_ok nmX4 rfl (by decide +kernel) rfl dX4_order_90 h (fun σ90 h => ?_)
    exact ww_vret C hr hlk h dX4_order_93
  · have h := h.2 hc
    refine ww_aload_n C 0 rfl dX4_order_69 ?_
    refine ww_getR C (row_o hb0) rfl inG4 6 (by decide) nq_57 rfl dX4_order_70 ?_
    refine ww_iload_n C 3 rfl dX4_order_73 ?_
    refine ww_aload_n C 0 rfl dX4_order_74 ?_
    refine ww_getR C (row_o hb0) rfl inG4 6 (by decide) nq_57 rfl dX4_order_75 ?_
    refine ww_iload_n C 1 rfl dX4_order_78 ?_
    refine ww_iald C (row_6 hb0) h.1 dX4_order_79 ?_
    have h := h.2
    refine ww_iast C (row_6 hb0) h.1 dX4_order_80 h.2 (fun σ80 h => ?_)
    refine ww_aload_n C 0 rfl dX4_order_81 ?_
    refine ww_dup C rfl dX4_order_82 ?_
    refine ww_getI C (row_o hb0) rfl inG4 7 (by decide) nq_83 rfl dX4_order_83 ?_
    refine ww_iconst (v := 1) C dX4_order_86 (by decide) ?_
    refine ww_iload_n C 1 rfl dX4_order_87 ?_
    refine ww_ishl C dX4_order_88 ?_
    refine ww_ior C dX4_order_89 ?_
    refine ww_putI C (row_o hb0) rfl inG4 7 (by decide) nq_83 tyX4 tyX4_ok nmX4 rfl (by decide +kernel) rfl dX4_order_90 h (fun σ90 h => ?_)
    exact ww_vret C hr hlk h dX4_order_93
set_option maxRecDepth 100000 in
set_option maxHeartbeats 4000000 in
theorem c_X4_order {l : Launch} {dC : Nat → ClassId} {dI : Nat → Nat → Nat} {cA : Nat → ClassId} {al : Nat → Nat} {sh : List Kd} {b0 : Nat} (hb0 : isRow sh b0) {σ : St} {a1 : Int32} {a2 : Int32} {a3 : Int32} {Q : St → Prop} (h : m_X4_order b0 σ a1 a2 a3 Q) : ∀ sz, Met l yX4_order (wd yX4_order cX4_order 5 none) (RM 0) (va_Pc ([.ref b0, .int a1, .int a2, .int a3].map (cv al)) (WPre dC dI cA al sh σ sz)) (va_Qv Q (WPost dC dI cA al sh (AW al sh sz)) (AW al sh sz)) 0 0 (AW al sh sz) := by
  refine ww_met (Qc := fun A => va_Qv Q (WPost dC dI cA al sh A) A) (by decide +kernel) (Nat.le_of_ble_eq_true rfl) (fun p e s m args below meth c A C hr hlk => ?_)
  show WW p l e (RM 0) s m args below meth c (MQ below (va_Qv Q (WPost dC dI cA al sh A) A) args s 0 0 A) dC dI cA A 5 0 0 al sh 0 [(0, .ref b0), (1, .int a1), (2, .int a2), (3, .int a3)] [] σ
  unfold m_X4_order at h
  refine ww_aload_n C 0 rfl dX4_order_0 ?_
  refine ww_getR C (row_o hb0) rfl inG4 6 (by decide) nq_57 rfl dX4_order_1 ?_
  refine ww_iload_n C 1 rfl dX4_order_4 ?_
  refine ww_iald C (row_6 hb0) h.1 dX4_order_5 ?_
  have h := h.2
  refine ww_nmI h (fun y6 h => ?_)
  refine ww_istore (lv' := [(4, .int y6), (0, .ref b0), (1, .int a1), (2, .int a2), (3, .int a3)]) C dX4_order_6 (by decide) rfl ?_
  refine ww_iload_n C 3 rfl dX4_order_8 ?_
  refine ww_bipush (v := 106) C dX4_order_9 (by decide) ?_
  refine ww_icmp_ne (tgt := 37) C dX4_order_11 (by decide) (fun hc => ?_) (fun hc => ?_)
  · have h := h.1 hc
    refine ww_sub [1, 2, 3, 4, 0] rfl ?_
    exact w_X4_order_J37 (Q := Q) (a1 := a1) (a2 := a2) (a3 := a3) C hr hlk hb0 h
  · have h := h.2 hc
    refine ww_aload_n C 1 rfl dX4_order_14 ?_
    refine ww_getI C (row_o hb0) rfl inG4 7 (by decide) nq_83 rfl dX4_order_15 ?_
    refine ww_iload_n C 4 rfl dX4_order_18 ?_
    refine ww_ishr C dX4_order_19 ?_
    refine ww_iconst (v := 1) C dX4_order_20 (by decide) ?_
    refine ww_iand C dX4_order_21 ?_
    refine ww_iconst (v := 1) C dX4_order_22 (by decide) ?_
    refine ww_icmp_ne (tgt := 37) C dX4_order_23 (by decide) (fun hc => ?_) (fun hc => ?_)
    · have h := h.1 hc
      refine ww_sub [1, 2, 3, 4, 0] rfl ?_
      exact w_X4_order_J37 (Q := Q) (a1 := a1) (a2 := a2) (a3 := a3) C hr hlk hb0 h
    · have h := h.2 hc
      refine ww_iload C 0 rfl dX4_order_26 ?_
      refine ww_aload_n C 1 rfl dX4_order_28 ?_
      refine ww_getR C (row_o hb0) rfl inG4 6 (by decide) nq_57 rfl dX4_order_29 ?_
      refine ww_iload_n C 4 rfl dX4_order_32 ?_
      refine ww_iald C (row_6 hb0) h.1 dX4_order_33 ?_
      have h := h.2
      refine ww_ior C dX4_order_34 ?_
      refine ww_nmI h (fun y35 h => ?_)
      refine ww_istore (lv' := [(4, .int y35), (0, .ref b0), (1, .int a1), (2, .int a2), (3, .int a3)]) C dX4_order_35 (by decide) rfl ?_
      refine ww_sub [1, 2, 3, 4, 0] rfl ?_
      exact w_X4_order_J37 (Q := Q) (a1 := a1) (a2 := a2) (a3 := a3) C hr hlk hb0 h
set_option maxRecDepth 100000 in
set_option maxHeartbeats 4000000 in
theorem c_X7_allToRead {l : Launch} {dC : Nat → ClassId} {dI : Nat → Nat → Nat} {cA : Nat → ClassId} {al : Nat → Nat} {sh : List Kd} {w0 : Nat} (hw0 : isWld sh w0) {σ : St} {Q : Int32 → St → Prop} (h : m_X7_allToRead w0 σ Q) : ∀ sz, Met l yX7_allToRead (wd yX7_allToRead cX7_allToRead 1 (some .int)) (RM 0) (va_Pc ([.ref w0].map (cv al)) (WPre dC dI cA al sh σ sz)) (va_Qi Q (WPost dC dI cA al sh (AW al sh sz)) (AW al sh sz)) 0 0 (AW al sh sz) := by
  refine ww_met (Qc := fun A => va_Qi Q (WPost dC dI cA al sh A) A) (by decide +kernel) (Nat.le_of_ble_eq_true rfl) (fun p e s m args below meth c A C hr hlk => ?_)
  show WW p l e (RM 0) s m args below meth c (MQ below (va_Qi Q (WPost dC dI cA al sh A) A) args s 0 0 A) dC dI cA A 1 0 0 al sh 0 [(0, .ref w0)] [] σ
  unfold m_X7_allToRead at h
  refine ww_aload_n C 0 rfl dX7_allToRead_0 ?_
  refine ww_getR C (wld_o hw0) rfl inG7 3 (by decide) nq_67 rfl dX7_allToRead_1 ?_
  refine ww_iconst (v := 0) C dX7_allToRead_4 (by decide) ?_
  refine ww_iald C (wld_2 hw0) (by unfold vp_in; decide) dX7_allToRead_5 ?_
  refine ww_aload_n C 0 rfl dX7_allToRead_6 ?_
  refine ww_getR C (wld_o hw0) rfl inG7 3 (by decide) nq_67 rfl dX7_allToRead_7 ?_
  refine ww_iconst (v := 1) C dX7_allToRead_10 (by decide) ?_
  refine ww_iald C (wld_2 hw0) (by unfold vp_in; decide) dX7_allToRead_11 ?_
  refine ww_ior C dX7_allToRead_12 ?_
  refine ww_aload_n C 0 rfl dX7_allToRead_13 ?_
  refine ww_getR C (wld_o hw0) rfl inG7 3 (by decide) nq_67 rfl dX7_allToRead_14 ?_
  refine ww_iconst (v := 2) C dX7_allToRead_17 (by decide) ?_
  refine ww_iald C (wld_2 hw0) (by unfold vp_in; decide) dX7_allToRead_18 ?_
  refine ww_ior C dX7_allToRead_19 ?_
  refine ww_aload_n C 0 rfl dX7_allToRead_20 ?_
  refine ww_getR C (wld_o hw0) rfl inG7 3 (by decide) nq_67 rfl dX7_allToRead_21 ?_
  refine ww_iconst (v := 3) C dX7_allToRead_24 (by decide) ?_
  refine ww_iald C (wld_2 hw0) (by unfold vp_in; decide) dX7_allToRead_25 ?_
  refine ww_ior C dX7_allToRead_26 ?_
  exact ww_iret C hr hlk h dX7_allToRead_27
set_option maxRecDepth 100000 in
set_option maxHeartbeats 4000000 in
theorem c_X7_allToWrite {l : Launch} {dC : Nat → ClassId} {dI : Nat → Nat → Nat} {cA : Nat → ClassId} {al : Nat → Nat} {sh : List Kd} {w0 : Nat} (hw0 : isWld sh w0) {σ : St} {Q : Int32 → St → Prop} (h : m_X7_allToWrite w0 σ Q) : ∀ sz, Met l yX7_allToWrite (wd yX7_allToWrite cX7_allToWrite 1 (some .int)) (RM 0) (va_Pc ([.ref w0].map (cv al)) (WPre dC dI cA al sh σ sz)) (va_Qi Q (WPost dC dI cA al sh (AW al sh sz)) (AW al sh sz)) 0 0 (AW al sh sz) := by
  refine ww_met (Qc := fun A => va_Qi Q (WPost dC dI cA al sh A) A) (by decide +kernel) (Nat.le_of_ble_eq_true rfl) (fun p e s m args below meth c A C hr hlk => ?_)
  show WW p l e (RM 0) s m args below meth c (MQ below (va_Qi Q (WPost dC dI cA al sh A) A) args s 0 0 A) dC dI cA A 1 0 0 al sh 0 [(0, .ref w0)] [] σ
  unfold m_X7_allToWrite at h
  refine ww_aload_n C 0 rfl dX7_allToWrite_0 ?_
  refine ww_getR C (wld_o hw0) rfl inG7 2 (by decide) nq_66 rfl dX7_allToWrite_1 ?_
  refine ww_iconst (v := 0) C dX7_allToWrite_4 (by decide) ?_
  refine ww_iald C (wld_1 hw0) (by unfold vp_in; decide) dX7_allToWrite_5 ?_
  refine ww_aload_n C 0 rfl dX7_allToWrite_6 ?_
  refine ww_getR C (wld_o hw0) rfl inG7 2 (by decide) nq_66 rfl dX7_allToWrite_7 ?_
  refine ww_iconst (v := 1) C dX7_allToWrite_10 (by decide) ?_
  refine ww_iald C (wld_1 hw0) (by unfold vp_in; decide) dX7_allToWrite_11 ?_
  refine ww_ior C dX7_allToWrite_12 ?_
  refine ww_aload_n C 0 rfl dX7_allToWrite_13 ?_
  refine ww_getR C (wld_o hw0) rfl inG7 2 (by decide) nq_66 rfl dX7_allToWrite_14 ?_
  refine ww_iconst (v := 2) C dX7_allToWrite_17 (by decide) ?_
  refine ww_iald C (wld_1 hw0) (by unfold vp_in; decide) dX7_allToWrite_18 ?_
  refine ww_ior C dX7_allToWrite_19 ?_
  refine ww_aload_n C 0 rfl dX7_allToWrite_20 ?_
  refine ww_getR C (wld_o hw0) rfl inG7 2 (by decide) nq_66 rfl dX7_allToWrite_21 ?_
  refine ww_iconst (v := 3) C dX7_allToWrite_24 (by decide) ?_
  refine ww_iald C (wld_1 hw0) (by unfold vp_in; decide) dX7_allToWrite_25 ?_
  refine ww_ior C dX7_allToWrite_26 ?_
  exact ww_iret C hr hlk h dX7_allToWrite_27
set_option maxRecDepth 100000 in
set_option maxHeartbeats 4000000 in
theorem w_X7_awaitable_L20b {p : Program} {l : Launch} {e : Env} {s : State} {m : MethodId} {args : Array Value} {below : List Frame} {meth : Method} {c : Code} {dC : Nat → ClassId} {dI : Nat → Nat → Nat} {cA : Nat → ClassId} {A : Nat → Prop} {al : Nat → Nat} {sh : List Kd} (C : Fx p s m args c cX7_awaitable 4 yX7_awaitable.cls dC dI cA A al) (hr : meth.sig.returnType = some .int) (hlk : meth.locks = false) {w0 : Nat} (hw0 : isWld sh w0) {a1 : Int32} {Q : Int32 → St → Prop} {K55 : St → Int32 → Prop} (hK55 : ∀ (σ : St) (x2 : Int32), K55 σ x2 → WW p l e (RM 0) s m args below meth c (MQ below (va_Qi Q (WPost dC dI cA al sh A) A) args s 0 0 A) dC dI cA A 4 0 0 al sh 55 [(2, .int x2)] [] σ) {Rc : St → Int32 → Int32 → Prop} (hRc : ∀ (σ : St) (x2 : Int32) (x3 : Int32), Rc σ x2 x3 → WW p l e (RM 0) s m args below meth c (MQ below (va_Qi Q (WPost dC dI cA al sh A) A) args s 0 0 A) dC dI cA A 4 0 0 al sh 20 [(0, .ref w0), (2, .int x2), (3, .int x3)] [] σ) {σ : St} {x2 : Int32} {x3 : Int32} (h : m_X7_awaitable_L20b w0 a1 Q K55 Rc σ x2 x3) : WW p l e (RM 0) s m args below meth c (MQ below (va_Qi Q (WPost dC dI cA al sh A) A) args s 0 0 A) dC dI cA A 4 0 0 al sh 20 [(0, .ref w0), (2, .int x2), (3, .int x3)] [] σ := by
  unfold m_X7_awaitable_L20b at h
  refine ww_iload_n C 2 rfl dX7_awaitable_20 ?_
  refine ww_iconst (v := 4) C dX7_awaitable_21 (by decide) ?_
  refine ww_icmp_ge (tgt := 55) C dX7_awaitable_22 (by decide) (fun hc => ?_) (fun hc => ?_)
  · have h := h.1 hc
    refine ww_sub [1] rfl ?_
    exact hK55 _ _ h
  · have h := h.2 hc
    refine ww_aload_n C 0 rfl dX7_awaitable_25 ?_
    refine ww_getR C (wld_o hw0) rfl inG7 2 (by decide) nq_66 rfl dX7_awaitable_26 ?_
    refine ww_iload_n C 2 rfl dX7_awaitable_29 ?_
    refine ww_iald C (wld_1 hw0) h.1 dX7_awaitable_30 ?_
    have h := h.2
    refine ww_aload_n C 0 rfl dX7_awaitable_31 ?_
    refine ww_getR C (wld_o hw0) rfl inG7 3 (by decide) nq_67 rfl dX7_awaitable_32 ?_
    refine ww_iload_n C 2 rfl dX7_awaitable_35 ?_
    refine ww_iald C (wld_2 hw0) h.1 dX7_awaitable_36 ?_
    have h := h.2
    refine ww_ior C dX7_awaitable_37 ?_
    refine ww_if_eq (tgt := 49) C dX7_awaitable_38 (by decide) (fun hc => ?_) (fun hc => ?_)
    · have h := h.1 hc
      refine ww_iinc (v := (x3 + 1)) (lv' := [(3, .int (x3 + 1)), (0, .ref w0), (2, .int x2)]) C 2 rfl dX7_awaitable_49 rfl (by decide) rfl ?_
      refine ww_goto (tgt := 20) C dX7_awaitable_52 (by decide) ?_
      refine ww_sub [1, 2, 0] rfl ?_
      exact hRc _ _ _ h
    · have h := h.2 hc
      refine ww_iload_n C 1 rfl dX7_awaitable_41 ?_
      refine ww_iconst (v := 1) C dX7_awaitable_42 (by decide) ?_
      refine ww_iload_n C 2 rfl dX7_awaitable_43 ?_
      refine ww_ishl C dX7_awaitable_44 ?_
      refine ww_iconst (v := -1) C dX7_awaitable_45 (by decide) ?_
      refine ww_ixor C dX7_awaitable_46 ?_
      refine ww_iand C dX7_awaitable_47 ?_
      refine ww_nmI h (fun y48 h => ?_)
      refine ww_istore_n (lv' := [(2, .int y48), (0, .ref w0), (3, .int x3)]) C dX7_awaitable_48 rfl (by decide) rfl ?_
      refine ww_iinc (v := (x3 + 1)) (lv' := [(3, .int (x3 + 1)), (2, .int y48), (0, .ref w0)]) C 2 rfl dX7_awaitable_49 rfl (by decide) rfl ?_
      refine ww_goto (tgt := 20) C dX7_awaitable_52 (by decide) ?_
      refine ww_sub [2, 1, 0] rfl ?_
      exact hRc _ _ _ h
set_option maxRecDepth 100000 in
set_option maxHeartbeats 4000000 in
theorem w_X7_awaitable_L20 {p : Program} {l : Launch} {e : Env} {s : State} {m : MethodId} {args : Array Value} {below : List Frame} {meth : Method} {c : Code} {dC : Nat → ClassId} {dI : Nat → Nat → Nat} {cA : Nat → ClassId} {A : Nat → Prop} {al : Nat → Nat} {sh : List Kd} (C : Fx p s m args c cX7_awaitable 4 yX7_awaitable.cls dC dI cA A al) (hr : meth.sig.returnType = some .int) (hlk : meth.locks = false) {w0 : Nat} (hw0 : isWld sh w0) {a1 : Int32} {Q : Int32 → St → Prop} {K55 : St → Int32 → Prop} (hK55 : ∀ (σ : St) (x2 : Int32), K55 σ x2 → WW p l e (RM 0) s m args below meth c (MQ below (va_Qi Q (WPost dC dI cA al sh A) A) args s 0 0 A) dC dI cA A 4 0 0 al sh 55 [(2, .int x2)] [] σ) : ∀ (f : Nat) (σ : St) (x2 : Int32) (x3 : Int32), m_X7_awaitable_L20 w0 a1 Q K55 f σ x2 x3 → WW p l e (RM 0) s m args below meth c (MQ below (va_Qi Q (WPost dC dI cA al sh A) A) args s 0 0 A) dC dI cA A 4 0 0 al sh 20 [(0, .ref w0), (2, .int x2), (3, .int x3)] [] σ := by
  intro f
  induction f with
  | zero => intro σ x2 x3 h; exact False.elim h
  | succ f ih => intro σ x2 x3 h; exact w_X7_awaitable_L20b (Q := Q) (a1 := a1) C hr hlk hw0 hK55 ih h
set_option maxRecDepth 100000 in
set_option maxHeartbeats 4000000 in
theorem w_X7_awaitable_J55 {p : Program} {l : Launch} {e : Env} {s : State} {m : MethodId} {args : Array Value} {below : List Frame} {meth : Method} {c : Code} {dC : Nat → ClassId} {dI : Nat → Nat → Nat} {cA : Nat → ClassId} {A : Nat → Prop} {al : Nat → Nat} {sh : List Kd} (C : Fx p s m args c cX7_awaitable 4 yX7_awaitable.cls dC dI cA A al) (hr : meth.sig.returnType = some .int) (hlk : meth.locks = false) {w0 : Nat} (hw0 : isWld sh w0) {a1 : Int32} {Q : Int32 → St → Prop} {σ : St} {x2 : Int32} (h : m_X7_awaitable_J55 w0 a1 Q σ x2) : WW p l e (RM 0) s m args below meth c (MQ below (va_Qi Q (WPost dC dI cA al sh A) A) args s 0 0 A) dC dI cA A 4 0 0 al sh 55 [(2, .int x2)] [] σ := by
  unfold m_X7_awaitable_J55 at h
  refine ww_iload_n C 0 rfl dX7_awaitable_55 ?_
  exact ww_iret C hr hlk h dX7_awaitable_56
set_option maxRecDepth 100000 in
set_option maxHeartbeats 4000000 in
theorem c_X7_awaitable {l : Launch} {dC : Nat → ClassId} {dI : Nat → Nat → Nat} {cA : Nat → ClassId} {al : Nat → Nat} {sh : List Kd} {w0 : Nat} (hw0 : isWld sh w0) {σ : St} {a1 : Int32} {Q : Int32 → St → Prop} (h : m_X7_awaitable w0 σ a1 Q) : ∀ sz, Met l yX7_awaitable (wd yX7_awaitable cX7_awaitable 4 (some .int)) (RM 0) (va_Pc ([.ref w0, .int a1].map (cv al)) (WPre dC dI cA al sh σ sz)) (va_Qi Q (WPost dC dI cA al sh (AW al sh sz)) (AW al sh sz)) 0 0 (AW al sh sz) := by
  refine ww_met (Qc := fun A => va_Qi Q (WPost dC dI cA al sh A) A) (by decide +kernel) (Nat.le_of_ble_eq_true rfl) (fun p e s m args below meth c A C hr hlk => ?_)
  show WW p l e (RM 0) s m args below meth c (MQ below (va_Qi Q (WPost dC dI cA al sh A) A) args s 0 0 A) dC dI cA A 4 0 0 al sh 0 [(0, .ref w0), (1, .int a1)] [] σ
  unfold m_X7_awaitable at h
  refine ww_aload_n C 0 rfl dX7_awaitable_0 ?_
  refine ww_getI C (wld_o hw0) rfl inG7 0 (by decide) nq_72 rfl dX7_awaitable_1 ?_
  refine ww_aload_n C 0 rfl dX7_awaitable_4 ?_
  refine ww_getI C (wld_o hw0) rfl inG7 1 (by decide) nq_73 rfl dX7_awaitable_5 ?_
  refine ww_iconst (v := -1) C dX7_awaitable_8 (by decide) ?_
  refine ww_ixor C dX7_awaitable_9 ?_
  refine ww_iand C dX7_awaitable_10 ?_
  refine ww_iconst (v := 1) C dX7_awaitable_11 (by decide) ?_
  refine ww_iload_n C 1 rfl dX7_awaitable_12 ?_
  refine ww_ishl C dX7_awaitable_13 ?_
  refine ww_iconst (v := -1) C dX7_awaitable_14 (by decide) ?_
  refine ww_ixor C dX7_awaitable_15 ?_
  refine ww_iand C dX7_awaitable_16 ?_
  refine ww_nmI h (fun y17 h => ?_)
  refine ww_istore_n (lv' := [(2, .int y17), (0, .ref w0), (1, .int a1)]) C dX7_awaitable_17 rfl (by decide) rfl ?_
  refine ww_iconst (v := 0) C dX7_awaitable_18 (by decide) ?_
  refine ww_istore_n (lv' := [(3, .int 0), (2, .int y17), (0, .ref w0), (1, .int a1)]) C dX7_awaitable_19 rfl (by decide) rfl ?_
  refine ww_sub [2, 1, 0] rfl ?_
  obtain ⟨f, h⟩ := h
  exact w_X7_awaitable_L20 (Q := Q) (a1 := a1) C hr hlk hw0 (fun σ x2 h => by exact w_X7_awaitable_J55 (Q := Q) (a1 := a1) C hr hlk hw0 h) f _ _ _ h
set_option maxRecDepth 100000 in
set_option maxHeartbeats 4000000 in
theorem c_X7_lives {l : Launch} {dC : Nat → ClassId} {dI : Nat → Nat → Nat} {cA : Nat → ClassId} {al : Nat → Nat} {sh : List Kd} {w0 : Nat} (hw0 : isWld sh w0) {σ : St} {a1 : Int32} {Q : Int32 → St → Prop} (h : m_X7_lives w0 σ a1 Q) : ∀ sz, Met l yX7_lives (wd yX7_lives cX7_lives 2 (some .boolean)) (RM 0) (va_Pc ([.ref w0, .int a1].map (cv al)) (WPre dC dI cA al sh σ sz)) (va_Qi Q (WPost dC dI cA al sh (AW al sh sz)) (AW al sh sz)) 0 0 (AW al sh sz) := by
  refine ww_met (Qc := fun A => va_Qi Q (WPost dC dI cA al sh A) A) (by decide +kernel) (Nat.le_of_ble_eq_true rfl) (fun p e s m args below meth c A C hr hlk => ?_)
  show WW p l e (RM 0) s m args below meth c (MQ below (va_Qi Q (WPost dC dI cA al sh A) A) args s 0 0 A) dC dI cA A 2 0 0 al sh 0 [(0, .ref w0), (1, .int a1)] [] σ
  unfold m_X7_lives at h
  refine ww_iload_n C 1 rfl dX7_lives_0 ?_
  refine ww_if_lt (tgt := 32) C dX7_lives_1 (by decide) (fun hc => ?_) (fun hc => ?_)
  · have h := h.1 hc
    refine ww_iconst (v := 0) C dX7_lives_32 (by decide) ?_
    exact ww_zret C hr hlk (by decide) h dX7_lives_33
  · have h := h.2 hc
    refine ww_iload_n C 1 rfl dX7_lives_4 ?_
    refine ww_iconst (v := 4) C dX7_lives_5 (by decide) ?_
    refine ww_icmp_ge (tgt := 32) C dX7_lives_6 (by decide) (fun hc => ?_) (fun hc => ?_)
    · have h := h.1 hc
      refine ww_iconst (v := 0) C dX7_lives_32 (by decide) ?_
      exact ww_zret C hr hlk (by decide) h dX7_lives_33
    · have h := h.2 hc
      refine ww_aload_n C 0 rfl dX7_lives_9 ?_
      refine ww_getI C (wld_o hw0) rfl inG7 0 (by decide) nq_72 rfl dX7_lives_10 ?_
      refine ww_aload_n C 0 rfl dX7_lives_13 ?_
      refine ww_getI C (wld_o hw0) rfl inG7 1 (by decide) nq_73 rfl dX7_lives_14 ?_
      refine ww_iconst (v := -1) C dX7_lives_17 (by decide) ?_
      refine ww_ixor C dX7_lives_18 ?_
      refine ww_iand C dX7_lives_19 ?_
      refine ww_iload_n C 1 rfl dX7_lives_20 ?_
      refine ww_ishr C dX7_lives_21 ?_
      refine ww_iconst (v := 1) C dX7_lives_22 (by decide) ?_
      refine ww_iand C dX7_lives_23 ?_
      refine ww_iconst (v := 1) C dX7_lives_24 (by decide) ?_
      refine ww_icmp_ne (tgt := 32) C dX7_lives_25 (by decide) (fun hc => ?_) (fun hc => ?_)
      · have h := h.1 hc
        refine ww_iconst (v := 0) C dX7_lives_32 (by decide) ?_
        exact ww_zret C hr hlk (by decide) h dX7_lives_33
      · have h := h.2 hc
        refine ww_iconst (v := 1) C dX7_lives_28 (by decide) ?_
        refine ww_goto (tgt := 33) C dX7_lives_29 (by decide) ?_
        exact ww_zret C hr hlk (by decide) h dX7_lives_33
set_option maxRecDepth 100000 in
set_option maxHeartbeats 4000000 in
theorem c_X7_choices {l : Launch} {dC : Nat → ClassId} {dI : Nat → Nat → Nat} {cA : Nat → ClassId} {al : Nat → Nat} {sh : List Kd} {w0 : Nat} (hw0 : isWld sh w0) {σ : St} {a1 : Int32} {a2 : Int32} {Q : Int32 → St → Prop} (h : m_X7_choices w0 σ a1 a2 Q) : ∀ sz, Met l yX7_choices (wd yX7_choices cX7_choices 3 (some .int)) (RM 1) (va_Pc ([.ref w0, .int a1, .int a2].map (cv al)) (WPre dC dI cA al sh σ sz)) (va_Qi Q (WPost dC dI cA al sh (AW al sh sz)) (AW al sh sz)) 0 0 (AW al sh sz) := by
  refine ww_met (Qc := fun A => va_Qi Q (WPost dC dI cA al sh A) A) (by decide +kernel) (Nat.le_of_ble_eq_true rfl) (fun p e s m args below meth c A C hr hlk => ?_)
  show WW p l e (RM 1) s m args below meth c (MQ below (va_Qi Q (WPost dC dI cA al sh A) A) args s 0 0 A) dC dI cA A 3 0 0 al sh 0 [(0, .ref w0), (1, .int a1), (2, .int a2)] [] σ
  unfold m_X7_choices at h
  refine ww_aload_n C 0 rfl dX7_choices_0 ?_
  refine ww_iload_n C 1 rfl dX7_choices_1 ?_
  refine ww_vi (n := 1) (As := [.int a1]) (rest := []) C (c_X7_lives hw0 h) (wld_o hw0) rfl nq_191 nq_184 nq_185 nq_60 nq_186 (by decide +kernel) rfl rfl ⟨Nat.le_of_ble_eq_true rfl, Nat.le_of_ble_eq_true rfl, Nat.le_of_ble_eq_true rfl, Nat.le_of_ble_eq_true rfl⟩ (Nat.le_of_ble_eq_true rfl) dX7_choices_2 (fun r2 σ2 h => ?_)
  refine ww_if_ne (tgt := 10) C dX7_choices_5 (by decide) (fun hc => ?_) (fun hc => ?_)
  · have h := h.1 hc
    refine ww_iload_n C 2 rfl dX7_choices_10 ?_
    by_cases hc102 : a2 = 102
    · refine ww_table (off := 137) (tgt := 148) C dX7_choices_11 (by rw [hc102]; decide) (by rw [hc102]; decide) (by rw [hc102]; rfl) (by decide) ?_
      have h := h.1 hc102
      refine ww_bipush (v := 15) C dX7_choices_148 (by decide) ?_
      refine ww_aload_n C 0 rfl dX7_choices_150 ?_
      refine ww_getI C (wld_o hw0) rfl inG7 0 (by decide) nq_72 rfl dX7_choices_151 ?_
      refine ww_iconst (v := -1) C dX7_choices_154 (by decide) ?_
      refine ww_ixor C dX7_choices_155 ?_
      refine ww_iand C dX7_choices_156 ?_
      exact ww_iret C hr hlk h dX7_choices_157
    · skip
      by_cases hc106 : a2 = 106
      · refine ww_table (off := 147) (tgt := 158) C dX7_choices_11 (by rw [hc106]; decide) (by rw [hc106]; decide) (by rw [hc106]; rfl) (by decide) ?_
        have h := h.2.1 hc106
        refine ww_aload_n C 0 rfl dX7_choices_158 ?_
        refine ww_iload_n C 1 rfl dX7_choices_159 ?_
        refine ww_vi (n := 1) (As := [.int a1]) (rest := []) C (c_X7_awaitable hw0 h) (wld_o hw0) rfl nq_200 nq_201 nq_202 nq_60 nq_203 (by decide +kernel) rfl rfl ⟨Nat.le_of_ble_eq_true rfl, Nat.le_of_ble_eq_true rfl, Nat.le_of_ble_eq_true rfl, Nat.le_of_ble_eq_true rfl⟩ (Nat.le_of_ble_eq_true rfl) dX7_choices_160 (fun r160 σ160 h => ?_)
        exact ww_iret C hr hlk h dX7_choices_163
      · skip
        by_cases hc108 : a2 = 108
        · refine ww_table (off := 85) (tgt := 96) C dX7_choices_11 (by rw [hc108]; decide) (by rw [hc108]; decide) (by rw [hc108]; rfl) (by decide) ?_
          have h := h.2.2.1 hc108
          refine ww_bipush (v := 15) C dX7_choices_96 (by decide) ?_
          refine ww_aload_n C 0 rfl dX7_choices_98 ?_
          refine ww_vi (n := 0) (As := []) (rest := [.int 15]) C (c_X7_allToWrite hw0 h) (wld_o hw0) rfl nq_192 nq_193 nq_194 nq_60 nq_195 (by decide +kernel) rfl rfl ⟨Nat.le_of_ble_eq_true rfl, Nat.le_of_ble_eq_true rfl, Nat.le_of_ble_eq_true rfl, Nat.le_of_ble_eq_true rfl⟩ (Nat.le_of_ble_eq_true rfl) dX7_choices_99 (fun r99 σ99 h => ?_)
          refine ww_aload_n C 0 rfl dX7_choices_102 ?_
          refine ww_vi (n := 0) (As := []) (rest := [.int r99, .int 15]) C (c_X7_allToRead hw0 h) (wld_o hw0) rfl nq_196 nq_197 nq_198 nq_60 nq_199 (by decide +kernel) rfl rfl ⟨Nat.le_of_ble_eq_true rfl, Nat.le_of_ble_eq_true rfl, Nat.le_of_ble_eq_true rfl, Nat.le_of_ble_eq_true rfl⟩ (Nat.le_of_ble_eq_true rfl) dX7_choices_103 (fun r103 σ103 h => ?_)
          refine ww_ior C dX7_choices_106 ?_
          refine ww_iconst (v := -1) C dX7_choices_107 (by decide) ?_
          refine ww_ixor C dX7_choices_108 ?_
          refine ww_iand C dX7_choices_109 ?_
          exact ww_iret C hr hlk h dX7_choices_110
        · skip
          by_cases hc114 : a2 = 114
          · refine ww_table (off := 131) (tgt := 142) C dX7_choices_11 (by rw [hc114]; decide) (by rw [hc114]; decide) (by rw [hc114]; rfl) (by decide) ?_
            have h := h.2.2.2.1 hc114
            refine ww_bipush (v := 15) C dX7_choices_142 (by decide) ?_
            exact ww_iret C hr hlk h dX7_choices_144
          · skip
            by_cases hc115 : a2 = 115
            · refine ww_table (off := 100) (tgt := 111) C dX7_choices_11 (by rw [hc115]; decide) (by rw [hc115]; decide) (by rw [hc115]; rfl) (by decide) ?_
              have h := h.2.2.2.2.1 hc115
              refine ww_bipush (v := 15) C dX7_choices_111 (by decide) ?_
              refine ww_aload_n C 0 rfl dX7_choices_113 ?_
              refine ww_vi (n := 0) (As := []) (rest := [.int 15]) C (c_X7_allToWrite hw0 h) (wld_o hw0) rfl nq_192 nq_193 nq_194 nq_60 nq_195 (by decide +kernel) rfl rfl ⟨Nat.le_of_ble_eq_true rfl, Nat.le_of_ble_eq_true rfl, Nat.le_of_ble_eq_true rfl, Nat.le_of_ble_eq_true rfl⟩ (Nat.le_of_ble_eq_true rfl) dX7_choices_114 (fun r114 σ114 h => ?_)
              refine ww_aload_n C 0 rfl dX7_choices_117 ?_
              refine ww_getR C (wld_o hw0) rfl inG7 3 (by decide) nq_67 rfl dX7_choices_118 ?_
              refine ww_iload_n C 1 rfl dX7_choices_121 ?_
              refine ww_iald C (wld_2 hw0) h.1 dX7_choices_122 ?_
              have h := h.2
              refine ww_ior C dX7_choices_123 ?_
              refine ww_iconst (v := -1) C dX7_choices_124 (by decide) ?_
              refine ww_ixor C dX7_choices_125 ?_
              refine ww_iand C dX7_choices_126 ?_
              exact ww_iret C hr hlk h dX7_choices_127
            · skip
              by_cases hc117 : a2 = 117
              · refine ww_table (off := 117) (tgt := 128) C dX7_choices_11 (by rw [hc117]; decide) (by rw [hc117]; decide) (by rw [hc117]; rfl) (by decide) ?_
                have h := h.2.2.2.2.2.1 hc117
                refine ww_aload_n C 0 rfl dX7_choices_128 ?_
                refine ww_getR C (wld_o hw0) rfl inG7 2 (by decide) nq_66 rfl dX7_choices_129 ?_
                refine ww_iload_n C 1 rfl dX7_choices_132 ?_
                refine ww_iald C (wld_1 hw0) h.1 dX7_choices_133 ?_
                have h := h.2
                refine ww_aload_n C 0 rfl dX7_choices_134 ?_
                refine ww_getR C (wld_o hw0) rfl inG7 3 (by decide) nq_67 rfl dX7_choices_135 ?_
                refine ww_iload_n C 1 rfl dX7_choices_138 ?_
                refine ww_iald C (wld_2 hw0) h.1 dX7_choices_139 ?_
                have h := h.2
                refine ww_ior C dX7_choices_140 ?_
                exact ww_iret C hr hlk h dX7_choices_141
              · skip
                by_cases hc119 : a2 = 119
                · refine ww_table (off := 134) (tgt := 145) C dX7_choices_11 (by rw [hc119]; decide) (by rw [hc119]; decide) (by rw [hc119]; rfl) (by decide) ?_
                  have h := h.2.2.2.2.2.2.1 hc119
                  refine ww_bipush (v := 15) C dX7_choices_145 (by decide) ?_
                  exact ww_iret C hr hlk h dX7_choices_147
                · skip
                  refine ww_tabD (tgt := 164) C dX7_choices_11 (tabD_ok [102, 106, 108, 114, 115, 117, 119] (by decide) (List.forall_mem_cons.mpr ⟨ne_toInt (n := 102) hc102, (List.forall_mem_cons.mpr ⟨ne_toInt (n := 106) hc106, (List.forall_mem_cons.mpr ⟨ne_toInt (n := 108) hc108, (List.forall_mem_cons.mpr ⟨ne_toInt (n := 114) hc114, (List.forall_mem_cons.mpr ⟨ne_toInt (n := 115) hc115, (List.forall_mem_cons.mpr ⟨ne_toInt (n := 117) hc117, (List.forall_mem_cons.mpr ⟨ne_toInt (n := 119) hc119, (fun _ h => absurd h List.not_mem_nil)⟩)⟩)⟩)⟩)⟩)⟩)⟩)) (by decide) ?_
                  have h := h.2.2.2.2.2.2.2 ⟨hc102, hc106, hc108, hc114, hc115, hc117, hc119⟩
                  refine ww_iconst (v := 0) C dX7_choices_164 (by decide) ?_
                  exact ww_iret C hr hlk h dX7_choices_165
  · have h := h.2 hc
    refine ww_iconst (v := 0) C dX7_choices_8 (by decide) ?_
    exact ww_iret C hr hlk h dX7_choices_9
set_option maxRecDepth 100000 in
set_option maxHeartbeats 4000000 in
theorem c_X7_go {l : Launch} {dC : Nat → ClassId} {dI : Nat → Nat → Nat} {cA : Nat → ClassId} {al : Nat → Nat} {sh : List Kd} {w0 : Nat} (hw0 : isWld sh w0) {σ : St} {a1 : Int32} {a2 : Int32} {a3 : Int32} {Q : St → Prop} (h : m_X7_go w0 σ a1 a2 a3 Q) : ∀ sz, Met l yX7_go (wd yX7_go cX7_go 5 none) (RM 0) (va_Pc ([.ref w0, .int a1, .int a2, .int a3].map (cv al)) (WPre dC dI cA al sh σ sz)) (va_Qv Q (WPost dC dI cA al sh (AW al sh sz)) (AW al sh sz)) 0 0 (AW al sh sz) := by
  refine ww_met (Qc := fun A => va_Qv Q (WPost dC dI cA al sh A) A) (by decide +kernel) (Nat.le_of_ble_eq_true rfl) (fun p e s m args below meth c A C hr hlk => ?_)
  show WW p l e (RM 0) s m args below meth c (MQ below (va_Qv Q (WPost dC dI cA al sh A) A) args s 0 0 A) dC dI cA A 5 0 0 al sh 0 [(0, .ref w0), (1, .int a1), (2, .int a2), (3, .int a3)] [] σ
  unfold m_X7_go at h
  refine ww_iconst (v := 1) C dX7_go_0 (by decide) ?_
  refine ww_iload_n C 3 rfl dX7_go_1 ?_
  refine ww_ishl C dX7_go_2 ?_
  refine ww_nmI h (fun y3 h => ?_)
  refine ww_istore (lv' := [(4, .int y3), (0, .ref w0), (1, .int a1), (2, .int a2), (3, .int a3)]) C dX7_go_3 (by decide) rfl ?_
  refine ww_iload_n C 3 rfl dX7_go_5 ?_
  by_cases hc102 : a2 = 102
  · refine ww_lookup (off := 107) (tgt := 113) C dX7_go_6 (by decide) (by rw [hc102]; rfl) (by decide) ?_
    have h := h.1 hc102
    refine ww_aload_n C 1 rfl dX7_go_113 ?_
    refine ww_dup C rfl dX7_go_114 ?_
    refine ww_getI C (wld_o hw0) rfl inG7 0 (by decide) nq_72 rfl dX7_go_115 ?_
    refine ww_iload C 0 rfl dX7_go_118 ?_
    refine ww_ior C dX7_go_120 ?_
    refine ww_putI C (wld_o hw0) rfl inG7 0 (by decide) nq_72 tyX7 tyX7_ok nmX7 rfl (by decide +kernel) rfl dX7_go_121 h (fun σ121 h => ?_)
    refine ww_goto (tgt := 141) C dX7_go_124 (by decide) ?_
    exact ww_vret C hr hlk h dX7_go_141
  · skip
    by_cases hc106 : a2 = 106
    · refine ww_lookup (off := 121) (tgt := 127) C dX7_go_6 (by decide) (by rw [hc106]; rfl) (by decide) ?_
      have h := h.2.1 hc106
      refine ww_aload_n C 1 rfl dX7_go_127 ?_
      refine ww_dup C rfl dX7_go_128 ?_
      refine ww_getI C (wld_o hw0) rfl inG7 1 (by decide) nq_73 rfl dX7_go_129 ?_
      refine ww_iload C 0 rfl dX7_go_132 ?_
      refine ww_ior C dX7_go_134 ?_
      refine ww_putI C (wld_o hw0) rfl inG7 1 (by decide) nq_73 tyX7 tyX7_ok nmX7 rfl (by decide +kernel) rfl dX7_go_135 h (fun σ135 h => ?_)
      refine ww_goto (tgt := 141) C dX7_go_138 (by decide) ?_
      exact ww_vret C hr hlk h dX7_go_141
    · skip
      by_cases hc108 : a2 = 108
      · refine ww_lookup (off := 50) (tgt := 56) C dX7_go_6 (by decide) (by rw [hc108]; rfl) (by decide) ?_
        have h := h.2.2.1 hc108
        refine ww_aload_n C 1 rfl dX7_go_56 ?_
        refine ww_getR C (wld_o hw0) rfl inG7 2 (by decide) nq_66 rfl dX7_go_57 ?_
        refine ww_iload_n C 2 rfl dX7_go_60 ?_
        refine ww_dup2 C rfl rfl dX7_go_61 ?_
        refine ww_iald C (wld_1 hw0) h.1 dX7_go_62 ?_
        have h := h.2
        refine ww_iload C 0 rfl dX7_go_63 ?_
        refine ww_ior C dX7_go_65 ?_
        refine ww_iast C (wld_1 hw0) h.1 dX7_go_66 h.2 (fun σ66 h => ?_)
        refine ww_goto (tgt := 141) C dX7_go_67 (by decide) ?_
        exact ww_vret C hr hlk h dX7_go_141
      · skip
        by_cases hc115 : a2 = 115
        · refine ww_lookup (off := 64) (tgt := 70) C dX7_go_6 (by decide) (by rw [hc115]; rfl) (by decide) ?_
          have h := h.2.2.2.1 hc115
          refine ww_aload_n C 1 rfl dX7_go_70 ?_
          refine ww_getR C (wld_o hw0) rfl inG7 3 (by decide) nq_67 rfl dX7_go_71 ?_
          refine ww_iload_n C 2 rfl dX7_go_74 ?_
          refine ww_dup2 C rfl rfl dX7_go_75 ?_
          refine ww_iald C (wld_2 hw0) h.1 dX7_go_76 ?_
          have h := h.2
          refine ww_iload C 0 rfl dX7_go_77 ?_
          refine ww_ior C dX7_go_79 ?_
          refine ww_iast C (wld_2 hw0) h.1 dX7_go_80 h.2 (fun σ80 h => ?_)
          refine ww_goto (tgt := 141) C dX7_go_81 (by decide) ?_
          exact ww_vret C hr hlk h dX7_go_141
        · skip
          by_cases hc117 : a2 = 117
          · refine ww_lookup (off := 78) (tgt := 84) C dX7_go_6 (by decide) (by rw [hc117]; rfl) (by decide) ?_
            have h := h.2.2.2.2.1 hc117
            refine ww_aload_n C 1 rfl dX7_go_84 ?_
            refine ww_getR C (wld_o hw0) rfl inG7 2 (by decide) nq_66 rfl dX7_go_85 ?_
            refine ww_iload_n C 2 rfl dX7_go_88 ?_
            refine ww_dup2 C rfl rfl dX7_go_89 ?_
            refine ww_iald C (wld_1 hw0) h.1 dX7_go_90 ?_
            have h := h.2
            refine ww_iload C 0 rfl dX7_go_91 ?_
            refine ww_iconst (v := -1) C dX7_go_93 (by decide) ?_
            refine ww_ixor C dX7_go_94 ?_
            refine ww_iand C dX7_go_95 ?_
            refine ww_iast C (wld_1 hw0) h.1 dX7_go_96 h.2 (fun σ96 h => ?_)
            refine ww_aload_n C 1 rfl dX7_go_97 ?_
            refine ww_getR C (wld_o hw0) rfl inG7 3 (by decide) nq_67 rfl dX7_go_98 ?_
            refine ww_iload_n C 2 rfl dX7_go_101 ?_
            refine ww_dup2 C rfl rfl dX7_go_102 ?_
            refine ww_iald C (wld_2 hw0) h.1 dX7_go_103 ?_
            have h := h.2
            refine ww_iload C 0 rfl dX7_go_104 ?_
            refine ww_iconst (v := -1) C dX7_go_106 (by decide) ?_
            refine ww_ixor C dX7_go_107 ?_
            refine ww_iand C dX7_go_108 ?_
            refine ww_iast C (wld_2 hw0) h.1 dX7_go_109 h.2 (fun σ109 h => ?_)
            refine ww_goto (tgt := 141) C dX7_go_110 (by decide) ?_
            exact ww_vret C hr hlk h dX7_go_141
          · skip
            refine ww_lookup (off := 135) (tgt := 141) C dX7_go_6 (by decide) (lk_none (List.forall_mem_cons.mpr ⟨ne_toInt (n := 102) hc102, (List.forall_mem_cons.mpr ⟨ne_toInt (n := 106) hc106, (List.forall_mem_cons.mpr ⟨ne_toInt (n := 108) hc108, (List.forall_mem_cons.mpr ⟨ne_toInt (n := 115) hc115, (List.forall_mem_cons.mpr ⟨ne_toInt (n := 117) hc117, (fun _ h => absurd h List.not_mem_nil)⟩)⟩)⟩)⟩)⟩)) (by decide) ?_
            have h := h.2.2.2.2.2 ⟨hc102, hc106, hc108, hc115, hc117⟩
            exact ww_vret C hr hlk h dX7_go_141
set_option maxRecDepth 100000 in
set_option maxHeartbeats 4000000 in
theorem w_X4_put_J134 {p : Program} {l : Launch} {e : Env} {s : State} {m : MethodId} {args : Array Value} {below : List Frame} {meth : Method} {c : Code} {dC : Nat → ClassId} {dI : Nat → Nat → Nat} {cA : Nat → ClassId} {A : Nat → Prop} {al : Nat → Nat} {sh : List Kd} (C : Fx p s m args c cX4_put 5 yX4_put.cls dC dI cA A al) (hr : meth.sig.returnType = some .boolean) (hlk : meth.locks = false) {b0 : Nat} (hb0 : isRow sh b0) {a1 : Int32} {Q : Int32 → St → Prop} {σ : St} {x2 : Int32} {x3 : Int32} {x4 : Int32} {t1 : Int32} {t2 : Int32} (h : m_X4_put_J134 b0 a1 Q σ x2 x3 x4 t1 t2) : WW p l e (RM 2) s m args below meth c (MQ below (va_Qi Q (WPost dC dI cA al sh A) A) args s 0 0 A) dC dI cA A 5 0 0 al sh 134 [(0, .ref b0), (2, .int x2), (3, .int x3), (4, .int x4)] [.int t2, .int t1, .ref (b0 + 4)] σ := by
  unfold m_X4_put_J134 at h
  refine ww_iast C (row_4 hb0) h.1 dX4_put_134 h.2 (fun σ134 h => ?_)
  refine ww_aload_n C 0 rfl dX4_put_135 ?_
  refine ww_iload_n C 1 rfl dX4_put_136 ?_
  refine ww_iload_n C 2 rfl dX4_put_137 ?_
  refine ww_iload C 3 rfl dX4_put_138 ?_
  refine ww_vv (n := 3) (As := [.int x2, .int x3, .int x4]) (rest := []) C (c_X4_order hb0 h) (row_o hb0) rfl nq_217 nq_218 nq_219 nq_19 nq_220 (by decide +kernel) rfl rfl ⟨Nat.le_of_ble_eq_true rfl, Nat.le_of_ble_eq_true rfl, Nat.le_of_ble_eq_true rfl, Nat.le_of_ble_eq_true rfl⟩ (Nat.le_of_ble_eq_true rfl) dX4_put_140 (fun σ140 h => ?_)
  refine ww_aload_n C 0 rfl dX4_put_143 ?_
  refine ww_getR C (row_o hb0) rfl inG4 8 (by decide) nq_61 rfl dX4_put_144 ?_
  refine ww_iload_n C 1 rfl dX4_put_147 ?_
  refine ww_iload_n C 2 rfl dX4_put_148 ?_
  refine ww_iload C 3 rfl dX4_put_149 ?_
  refine ww_vv (n := 3) (As := [.int x2, .int x3, .int x4]) (rest := []) C (c_X7_go (row_w hb0) h) (wld_o (row_w hb0)) rfl nq_221 nq_222 nq_223 nq_60 nq_224 (by decide +kernel) rfl rfl ⟨Nat.le_of_ble_eq_true rfl, Nat.le_of_ble_eq_true rfl, Nat.le_of_ble_eq_true rfl, Nat.le_of_ble_eq_true rfl⟩ (Nat.le_of_ble_eq_true rfl) dX4_put_151 (fun σ151 h => ?_)
  refine ww_aload_n C 0 rfl dX4_put_154 ?_
  refine ww_dup C rfl dX4_put_155 ?_
  refine ww_getI C (row_o hb0) rfl inG4 0 (by decide) nq_82 rfl dX4_put_156 ?_
  refine ww_iconst (v := 1) C dX4_put_159 (by decide) ?_
  refine ww_iadd C dX4_put_160 ?_
  refine ww_putI C (row_o hb0) rfl inG4 0 (by decide) nq_82 tyX4 tyX4_ok nmX4 rfl (by decide +kernel) rfl dX4_put_161 h (fun σ161 h => ?_)
  refine ww_iconst (v := 1) C dX4_put_164 (by decide) ?_
  exact ww_zret C hr hlk (by decide) h dX4_put_165
set_option maxRecDepth 100000 in
set_option maxHeartbeats 4000000 in
theorem c_X4_put {l : Launch} {dC : Nat → ClassId} {dI : Nat → Nat → Nat} {cA : Nat → ClassId} {al : Nat → Nat} {sh : List Kd} {b0 : Nat} (hb0 : isRow sh b0) {σ : St} {a1 : Int32} {Q : Int32 → St → Prop} (h : m_X4_put b0 σ a1 Q) : ∀ sz, Met l yX4_put (wd yX4_put cX4_put 5 (some .boolean)) (RM 2) (va_Pc ([.ref b0, .int a1].map (cv al)) (WPre dC dI cA al sh σ sz)) (va_Qi Q (WPost dC dI cA al sh (AW al sh sz)) (AW al sh sz)) 0 0 (AW al sh sz) := by
  refine ww_met (Qc := fun A => va_Qi Q (WPost dC dI cA al sh A) A) (by decide +kernel) (Nat.le_of_ble_eq_true rfl) (fun p e s m args below meth c A C hr hlk => ?_)
  show WW p l e (RM 2) s m args below meth c (MQ below (va_Qi Q (WPost dC dI cA al sh A) A) args s 0 0 A) dC dI cA A 5 0 0 al sh 0 [(0, .ref b0), (1, .int a1)] [] σ
  unfold m_X4_put at h
  refine ww_iload_n C 1 rfl dX4_put_0 ?_
  refine ww_iconst (v := 2) C dX4_put_1 (by decide) ?_
  refine ww_ishr C dX4_put_2 ?_
  refine ww_iconst (v := 3) C dX4_put_3 (by decide) ?_
  refine ww_iand C dX4_put_4 ?_
  refine ww_nmI h (fun y5 h => ?_)
  refine ww_istore_n (lv' := [(2, .int y5), (0, .ref b0), (1, .int a1)]) C dX4_put_5 rfl (by decide) rfl ?_
  refine ww_iload_n C 2 rfl dX4_put_6 ?_
  refine ww_iconst (v := 4) C dX4_put_7 (by decide) ?_
  refine ww_ishr C dX4_put_8 ?_
  refine ww_nmI h (fun y9 h => ?_)
  refine ww_istore_n (lv' := [(3, .int y9), (2, .int y5), (0, .ref b0), (1, .int a1)]) C dX4_put_9 rfl (by decide) rfl ?_
  refine ww_iload_n C 3 rfl dX4_put_10 ?_
  refine ww_iconst (v := 3) C dX4_put_11 (by decide) ?_
  refine ww_iand C dX4_put_12 ?_
  refine ww_nmI h (fun y13 h => ?_)
  refine ww_istore (lv' := [(4, .int y13), (3, .int y9), (2, .int y5), (0, .ref b0), (1, .int a1)]) C dX4_put_13 (by decide) rfl ?_
  refine ww_aload_n C 3 rfl dX4_put_15 ?_
  refine ww_getI C (row_o hb0) rfl inG4 0 (by decide) nq_82 rfl dX4_put_16 ?_
  refine ww_bipush (v := 20) C dX4_put_19 (by decide) ?_
  refine ww_icmp_ge (tgt := 41) C dX4_put_21 (by decide) (fun hc => ?_) (fun hc => ?_)
  · have h := h.1 hc
    refine ww_iconst (v := 0) C dX4_put_41 (by decide) ?_
    exact ww_zret C hr hlk (by decide) h dX4_put_42
  · have h := h.2 hc
    refine ww_aload_n C 3 rfl dX4_put_24 ?_
    refine ww_getR C (row_o hb0) rfl inG4 8 (by decide) nq_61 rfl dX4_put_25 ?_
    refine ww_iload_n C 2 rfl dX4_put_28 ?_
    refine ww_iload_n C 1 rfl dX4_put_29 ?_
    refine ww_vi (n := 2) (As := [.int y5, .int y9]) (rest := []) C (c_X7_choices (row_w hb0) h) (wld_o (row_w hb0)) rfl nq_216 nq_188 nq_189 nq_60 nq_190 (by decide +kernel) rfl rfl ⟨Nat.le_of_ble_eq_true rfl, Nat.le_of_ble_eq_true rfl, Nat.le_of_ble_eq_true rfl, Nat.le_of_ble_eq_true rfl⟩ (Nat.le_of_ble_eq_true rfl) dX4_put_30 (fun r30 σ30 h => ?_)
    refine ww_iload C 0 rfl dX4_put_33 ?_
    refine ww_ishr C dX4_put_35 ?_
    refine ww_iconst (v := 1) C dX4_put_36 (by decide) ?_
    refine ww_iand C dX4_put_37 ?_
    refine ww_if_ne (tgt := 43) C dX4_put_38 (by decide) (fun hc => ?_) (fun hc => ?_)
    · have h := h.1 hc
      refine ww_aload_n C 3 rfl dX4_put_43 ?_
      refine ww_getR C (row_o hb0) rfl inG4 1 (by decide) nq_52 rfl dX4_put_44 ?_
      refine ww_aload_n C 3 rfl dX4_put_47 ?_
      refine ww_getI C (row_o hb0) rfl inG4 0 (by decide) nq_82 rfl dX4_put_48 ?_
      refine ww_iload_n C 4 rfl dX4_put_51 ?_
      refine ww_iast C (row_1 hb0) h.1 dX4_put_52 h.2 (fun σ52 h => ?_)
      refine ww_aload_n C 3 rfl dX4_put_53 ?_
      refine ww_getR C (row_o hb0) rfl inG4 2 (by decide) nq_53 rfl dX4_put_54 ?_
      refine ww_aload_n C 3 rfl dX4_put_57 ?_
      refine ww_getI C (row_o hb0) rfl inG4 0 (by decide) nq_82 rfl dX4_put_58 ?_
      refine ww_aload_n C 3 rfl dX4_put_61 ?_
      refine ww_getR C (row_o hb0) rfl inG4 8 (by decide) nq_61 rfl dX4_put_62 ?_
      refine ww_getRN C (wld_o (row_w hb0)) rfl inG7 2 (by decide) (List.mem_of_getElem? (i := 20) rfl) rfl dX4_put_65 ?_
      refine ww_iload_n C 2 rfl dX4_put_68 ?_
      refine ww_iald C (wld_1 (row_w hb0)) h.1 dX4_put_69 ?_
      have h := h.2
      refine ww_iast C (row_2 hb0) h.1 dX4_put_70 h.2 (fun σ70 h => ?_)
      refine ww_aload_n C 3 rfl dX4_put_71 ?_
      refine ww_getR C (row_o hb0) rfl inG4 3 (by decide) nq_54 rfl dX4_put_72 ?_
      refine ww_aload_n C 3 rfl dX4_put_75 ?_
      refine ww_getI C (row_o hb0) rfl inG4 0 (by decide) nq_82 rfl dX4_put_76 ?_
      refine ww_aload_n C 3 rfl dX4_put_79 ?_
      refine ww_getR C (row_o hb0) rfl inG4 8 (by decide) nq_61 rfl dX4_put_80 ?_
      refine ww_getRN C (wld_o (row_w hb0)) rfl inG7 3 (by decide) (List.mem_of_getElem? (i := 21) rfl) rfl dX4_put_83 ?_
      refine ww_iload_n C 2 rfl dX4_put_86 ?_
      refine ww_iald C (wld_2 (row_w hb0)) h.1 dX4_put_87 ?_
      have h := h.2
      refine ww_iast C (row_3 hb0) h.1 dX4_put_88 h.2 (fun σ88 h => ?_)
      refine ww_aload_n C 3 rfl dX4_put_89 ?_
      refine ww_getR C (row_o hb0) rfl inG4 4 (by decide) nq_55 rfl dX4_put_90 ?_
      refine ww_aload_n C 3 rfl dX4_put_93 ?_
      refine ww_getI C (row_o hb0) rfl inG4 0 (by decide) nq_82 rfl dX4_put_94 ?_
      refine ww_iload_n C 1 rfl dX4_put_97 ?_
      refine ww_bipush (v := 119) C dX4_put_98 (by decide) ?_
      refine ww_icmp_ne (tgt := 115) C dX4_put_100 (by decide) (fun hc => ?_) (fun hc => ?_)
      · have h := h.1 hc
        refine ww_aload_n C 3 rfl dX4_put_115 ?_
        refine ww_getR C (row_o hb0) rfl inG4 2 (by decide) nq_53 rfl dX4_put_116 ?_
        refine ww_aload_n C 3 rfl dX4_put_119 ?_
        refine ww_getI C (row_o hb0) rfl inG4 0 (by decide) nq_82 rfl dX4_put_120 ?_
        refine ww_iald C (row_2 hb0) h.1 dX4_put_123 ?_
        have h := h.2
        refine ww_aload_n C 3 rfl dX4_put_124 ?_
        refine ww_getR C (row_o hb0) rfl inG4 3 (by decide) nq_54 rfl dX4_put_125 ?_
        refine ww_aload_n C 3 rfl dX4_put_128 ?_
        refine ww_getI C (row_o hb0) rfl inG4 0 (by decide) nq_82 rfl dX4_put_129 ?_
        refine ww_iald C (row_3 hb0) h.1 dX4_put_132 ?_
        have h := h.2
        refine ww_ior C dX4_put_133 ?_
        refine ww_sub [3, 2, 1, 0] rfl ?_
        exact w_X4_put_J134 (Q := Q) (a1 := a1) C hr hlk hb0 h
      · have h := h.2 hc
        refine ww_aload_n C 3 rfl dX4_put_103 ?_
        refine ww_getR C (row_o hb0) rfl inG4 2 (by decide) nq_53 rfl dX4_put_104 ?_
        refine ww_aload_n C 3 rfl dX4_put_107 ?_
        refine ww_getI C (row_o hb0) rfl inG4 0 (by decide) nq_82 rfl dX4_put_108 ?_
        refine ww_iald C (row_2 hb0) h.1 dX4_put_111 ?_
        have h := h.2
        refine ww_goto (tgt := 134) C dX4_put_112 (by decide) ?_
        refine ww_sub [3, 2, 1, 0] rfl ?_
        exact w_X4_put_J134 (Q := Q) (a1 := a1) C hr hlk hb0 h
    · have h := h.2 hc
      refine ww_iconst (v := 0) C dX4_put_41 (by decide) ?_
      exact ww_zret C hr hlk (by decide) h dX4_put_42
set_option maxRecDepth 100000 in
set_option maxHeartbeats 4000000 in
theorem w_X4_replay_L6b {p : Program} {l : Launch} {e : Env} {s : State} {m : MethodId} {args : Array Value} {below : List Frame} {meth : Method} {c : Code} {dC : Nat → ClassId} {dI : Nat → Nat → Nat} {cA : Nat → ClassId} {A : Nat → Prop} {al : Nat → Nat} {sh : List Kd} (C : Fx p s m args c cX4_replay 3 yX4_replay.cls dC dI cA A al) (hr : meth.sig.returnType = some .boolean) (hlk : meth.locks = false) {b0 : Nat} (hb0 : isRow sh b0) {a1 : Int32} {Q : Int32 → St → Prop} {K30 : St → Prop} (hK30 : ∀ (σ : St), K30 σ → WW p l e (RM 3) s m args below meth c (MQ below (va_Qi Q (WPost dC dI cA al sh A) A) args s 0 0 A) dC dI cA A 3 0 0 al sh 30 [] [] σ) {K38 : St → Prop} (hK38 : ∀ (σ : St), K38 σ → WW p l e (RM 3) s m args below meth c (MQ below (va_Qi Q (WPost dC dI cA al sh A) A) args s 0 0 A) dC dI cA A 3 0 0 al sh 38 [] [] σ) {Rc : St → Int32 → Prop} (hRc : ∀ (σ : St) (x2 : Int32), Rc σ x2 → WW p l e (RM 3) s m args below meth c (MQ below (va_Qi Q (WPost dC dI cA al sh A) A) args s 0 0 A) dC dI cA A 3 0 0 al sh 6 [(0, .ref b0), (1, .int a1), (2, .int x2)] [] σ) {σ : St} {x2 : Int32} (h : m_X4_replay_L6b b0 a1 Q K30 K38 Rc σ x2) : WW p l e (RM 3) s m args below meth c (MQ below (va_Qi Q (WPost dC dI cA al sh A) A) args s 0 0 A) dC dI cA A 3 0 0 al sh 6 [(0, .ref b0), (1, .int a1), (2, .int x2)] [] σ := by
  unfold m_X4_replay_L6b at h
  refine ww_iload_n C 2 rfl dX4_replay_6 ?_
  refine ww_iload_n C 1 rfl dX4_replay_7 ?_
  refine ww_icmp_ge (tgt := 38) C dX4_replay_8 (by decide) (fun hc => ?_) (fun hc => ?_)
  · have h := h.1 hc
    refine ww_sub [] rfl ?_
    exact hK38 _ h
  · have h := h.2 hc
    refine ww_iload_n C 2 rfl dX4_replay_11 ?_
    refine ww_bipush (v := 20) C dX4_replay_12 (by decide) ?_
    refine ww_icmp_ge (tgt := 38) C dX4_replay_14 (by decide) (fun hc => ?_) (fun hc => ?_)
    · have h := h.1 hc
      refine ww_sub [] rfl ?_
      exact hK38 _ h
    · have h := h.2 hc
      refine ww_aload_n C 0 rfl dX4_replay_17 ?_
      refine ww_aload_n C 0 rfl dX4_replay_18 ?_
      refine ww_getR C (row_o hb0) rfl inG4 1 (by decide) nq_52 rfl dX4_replay_19 ?_
      refine ww_iload_n C 2 rfl dX4_replay_22 ?_
      refine ww_iald C (row_1 hb0) h.1 dX4_replay_23 ?_
      have h := h.2
      refine ww_vi (n := 1) (As := [.int (σ.1 (b0 + 1) x2.toNatClampNeg)]) (rest := []) C (c_X4_put hb0 h) (row_o hb0) rfl nq_285 nq_213 nq_214 nq_19 nq_215 (by decide +kernel) rfl rfl ⟨Nat.le_of_ble_eq_true rfl, Nat.le_of_ble_eq_true rfl, Nat.le_of_ble_eq_true rfl, Nat.le_of_ble_eq_true rfl⟩ (Nat.le_of_ble_eq_true rfl) dX4_replay_24 (fun r24 σ24 h => ?_)
      refine ww_if_ne (tgt := 32) C dX4_replay_27 (by decide) (fun hc => ?_) (fun hc => ?_)
      · have h := h.1 hc
        refine ww_iinc (v := (x2 + 1)) (lv' := [(2, .int (x2 + 1)), (0, .ref b0), (1, .int a1)]) C 2 rfl dX4_replay_32 rfl (by decide) rfl ?_
        refine ww_goto (tgt := 6) C dX4_replay_35 (by decide) ?_
        refine ww_sub [1, 2, 0] rfl ?_
        exact hRc _ _ h
      · have h := h.2 hc
        refine ww_sub [] rfl ?_
        exact hK30 _ h
set_option maxRecDepth 100000 in
set_option maxHeartbeats 4000000 in
theorem w_X4_replay_L6 {p : Program} {l : Launch} {e : Env} {s : State} {m : MethodId} {args : Array Value} {below : List Frame} {meth : Method} {c : Code} {dC : Nat → ClassId} {dI : Nat → Nat → Nat} {cA : Nat → ClassId} {A : Nat → Prop} {al : Nat → Nat} {sh : List Kd} (C : Fx p s m args c cX4_replay 3 yX4_replay.cls dC dI cA A al) (hr : meth.sig.returnType = some .boolean) (hlk : meth.locks = false) {b0 : Nat} (hb0 : isRow sh b0) {a1 : Int32} {Q : Int32 → St → Prop} {K30 : St → Prop} (hK30 : ∀ (σ : St), K30 σ → WW p l e (RM 3) s m args below meth c (MQ below (va_Qi Q (WPost dC dI cA al sh A) A) args s 0 0 A) dC dI cA A 3 0 0 al sh 30 [] [] σ) {K38 : St → Prop} (hK38 : ∀ (σ : St), K38 σ → WW p l e (RM 3) s m args below meth c (MQ below (va_Qi Q (WPost dC dI cA al sh A) A) args s 0 0 A) dC dI cA A 3 0 0 al sh 38 [] [] σ) : ∀ (f : Nat) (σ : St) (x2 : Int32), m_X4_replay_L6 b0 a1 Q K30 K38 f σ x2 → WW p l e (RM 3) s m args below meth c (MQ below (va_Qi Q (WPost dC dI cA al sh A) A) args s 0 0 A) dC dI cA A 3 0 0 al sh 6 [(0, .ref b0), (1, .int a1), (2, .int x2)] [] σ := by
  intro f
  induction f with
  | zero => intro σ x2 h; exact False.elim h
  | succ f ih => intro σ x2 h; exact w_X4_replay_L6b (Q := Q) (a1 := a1) C hr hlk hb0 hK30 hK38 ih h
set_option maxRecDepth 100000 in
set_option maxHeartbeats 4000000 in
theorem w_X4_replay_J30 {p : Program} {l : Launch} {e : Env} {s : State} {m : MethodId} {args : Array Value} {below : List Frame} {meth : Method} {c : Code} {dC : Nat → ClassId} {dI : Nat → Nat → Nat} {cA : Nat → ClassId} {A : Nat → Prop} {al : Nat → Nat} {sh : List Kd} (C : Fx p s m args c cX4_replay 3 yX4_replay.cls dC dI cA A al) (hr : meth.sig.returnType = some .boolean) (hlk : meth.locks = false) {b0 : Nat} (hb0 : isRow sh b0) {a1 : Int32} {Q : Int32 → St → Prop} {σ : St} (h : m_X4_replay_J30 b0 a1 Q σ) : WW p l e (RM 3) s m args below meth c (MQ below (va_Qi Q (WPost dC dI cA al sh A) A) args s 0 0 A) dC dI cA A 3 0 0 al sh 30 [] [] σ := by
  unfold m_X4_replay_J30 at h
  refine ww_iconst (v := 0) C dX4_replay_30 (by decide) ?_
  exact ww_zret C hr hlk (by decide) h dX4_replay_31
set_option maxRecDepth 100000 in
set_option maxHeartbeats 4000000 in
theorem w_X4_replay_J38 {p : Program} {l : Launch} {e : Env} {s : State} {m : MethodId} {args : Array Value} {below : List Frame} {meth : Method} {c : Code} {dC : Nat → ClassId} {dI : Nat → Nat → Nat} {cA : Nat → ClassId} {A : Nat → Prop} {al : Nat → Nat} {sh : List Kd} (C : Fx p s m args c cX4_replay 3 yX4_replay.cls dC dI cA A al) (hr : meth.sig.returnType = some .boolean) (hlk : meth.locks = false) {b0 : Nat} (hb0 : isRow sh b0) {a1 : Int32} {Q : Int32 → St → Prop} {σ : St} (h : m_X4_replay_J38 b0 a1 Q σ) : WW p l e (RM 3) s m args below meth c (MQ below (va_Qi Q (WPost dC dI cA al sh A) A) args s 0 0 A) dC dI cA A 3 0 0 al sh 38 [] [] σ := by
  unfold m_X4_replay_J38 at h
  refine ww_iconst (v := 1) C dX4_replay_38 (by decide) ?_
  exact ww_zret C hr hlk (by decide) h dX4_replay_39
set_option maxRecDepth 100000 in
set_option maxHeartbeats 4000000 in
theorem c_X4_replay {l : Launch} {dC : Nat → ClassId} {dI : Nat → Nat → Nat} {cA : Nat → ClassId} {al : Nat → Nat} {sh : List Kd} {b0 : Nat} (hb0 : isRow sh b0) {σ : St} {a1 : Int32} {Q : Int32 → St → Prop} (h : m_X4_replay b0 σ a1 Q) : ∀ sz, Met l yX4_replay (wd yX4_replay cX4_replay 3 (some .boolean)) (RM 3) (va_Pc ([.ref b0, .int a1].map (cv al)) (WPre dC dI cA al sh σ sz)) (va_Qi Q (WPost dC dI cA al sh (AW al sh sz)) (AW al sh sz)) 0 0 (AW al sh sz) := by
  refine ww_met (Qc := fun A => va_Qi Q (WPost dC dI cA al sh A) A) (by decide +kernel) (Nat.le_of_ble_eq_true rfl) (fun p e s m args below meth c A C hr hlk => ?_)
  show WW p l e (RM 3) s m args below meth c (MQ below (va_Qi Q (WPost dC dI cA al sh A) A) args s 0 0 A) dC dI cA A 3 0 0 al sh 0 [(0, .ref b0), (1, .int a1)] [] σ
  unfold m_X4_replay at h
  refine ww_aload_n C 0 rfl dX4_replay_0 ?_
  refine ww_vv (n := 0) (As := []) (rest := []) C (c_X4_begin hb0 h) (row_o hb0) rfl nq_78 nq_79 nq_80 nq_19 nq_81 (by decide +kernel) rfl rfl ⟨Nat.le_of_ble_eq_true rfl, Nat.le_of_ble_eq_true rfl, Nat.le_of_ble_eq_true rfl, Nat.le_of_ble_eq_true rfl⟩ (Nat.le_of_ble_eq_true rfl) dX4_replay_1 (fun σ1 h => ?_)
  refine ww_iconst (v := 0) C dX4_replay_4 (by decide) ?_
  refine ww_istore_n (lv' := [(2, .int 0), (0, .ref b0), (1, .int a1)]) C dX4_replay_5 rfl (by decide) rfl ?_
  refine ww_sub [1, 2, 0] rfl ?_
  obtain ⟨f, h⟩ := h
  exact w_X4_replay_L6 (Q := Q) (a1 := a1) C hr hlk hb0 (fun σ h => by exact w_X4_replay_J30 (Q := Q) (a1 := a1) C hr hlk hb0 h) (fun σ h => by exact w_X4_replay_J38 (Q := Q) (a1 := a1) C hr hlk hb0 h) f _ _ h
set_option maxRecDepth 100000 in
set_option maxHeartbeats 4000000 in
theorem c_X4_changePlaces {l : Launch} {dC : Nat → ClassId} {dI : Nat → Nat → Nat} {cA : Nat → ClassId} {al : Nat → Nat} {sh : List Kd} {b0 : Nat} (hb0 : isRow sh b0) {σ : St} {a1 : Int32} {Q : Int32 → St → Prop} (h : m_X4_changePlaces b0 σ a1 Q) : ∀ sz, Met l yX4_changePlaces (wd yX4_changePlaces cX4_changePlaces 3 (some .boolean)) (RM 4) (va_Pc ([.ref b0, .int a1].map (cv al)) (WPre dC dI cA al sh σ sz)) (va_Qi Q (WPost dC dI cA al sh (AW al sh sz)) (AW al sh sz)) 0 0 (AW al sh sz) := by
  refine ww_met (Qc := fun A => va_Qi Q (WPost dC dI cA al sh A) A) (by decide +kernel) (Nat.le_of_ble_eq_true rfl) (fun p e s m args below meth c A C hr hlk => ?_)
  show WW p l e (RM 4) s m args below meth c (MQ below (va_Qi Q (WPost dC dI cA al sh A) A) args s 0 0 A) dC dI cA A 3 0 0 al sh 0 [(0, .ref b0), (1, .int a1)] [] σ
  unfold m_X4_changePlaces at h
  refine ww_aload_n C 0 rfl dX4_changePlaces_0 ?_
  refine ww_iload_n C 1 rfl dX4_changePlaces_1 ?_
  refine ww_vi (n := 1) (As := [.int a1]) (rest := []) C (c_X4_hasPair hb0 h) (row_o hb0) rfl nq_401 nq_394 nq_395 nq_19 nq_396 (by decide +kernel) rfl rfl ⟨Nat.le_of_ble_eq_true rfl, Nat.le_of_ble_eq_true rfl, Nat.le_of_ble_eq_true rfl, Nat.le_of_ble_eq_true rfl⟩ (Nat.le_of_ble_eq_true rfl) dX4_changePlaces_2 (fun r2 σ2 h => ?_)
  refine ww_if_ne (tgt := 10) C dX4_changePlaces_5 (by decide) (fun hc => ?_) (fun hc => ?_)
  · have h := h.1 hc
    refine ww_aload_n C 0 rfl dX4_changePlaces_10 ?_
    refine ww_getI C (row_o hb0) rfl inG4 0 (by decide) nq_82 rfl dX4_changePlaces_11 ?_
    refine ww_nmI h (fun y14 h => ?_)
    refine ww_istore_n (lv' := [(2, .int y14), (0, .ref b0), (1, .int a1)]) C dX4_changePlaces_14 rfl (by decide) rfl ?_
    refine ww_aload_n C 1 rfl dX4_changePlaces_15 ?_
    refine ww_iload_n C 2 rfl dX4_changePlaces_16 ?_
    refine ww_vv (n := 1) (As := [.int a1]) (rest := []) C (c_X4_exchange hb0 h) (row_o hb0) rfl nq_402 nq_403 nq_404 nq_19 nq_405 (by decide +kernel) rfl rfl ⟨Nat.le_of_ble_eq_true rfl, Nat.le_of_ble_eq_true rfl, Nat.le_of_ble_eq_true rfl, Nat.le_of_ble_eq_true rfl⟩ (Nat.le_of_ble_eq_true rfl) dX4_changePlaces_17 (fun σ17 h => ?_)
    refine ww_aload_n C 1 rfl dX4_changePlaces_20 ?_
    refine ww_iload_n C 0 rfl dX4_changePlaces_21 ?_
    refine ww_vi (n := 1) (As := [.int y14]) (rest := []) C (c_X4_replay hb0 h) (row_o hb0) rfl nq_351 nq_352 nq_353 nq_19 nq_354 (by decide +kernel) rfl rfl ⟨Nat.le_of_ble_eq_true rfl, Nat.le_of_ble_eq_true rfl, Nat.le_of_ble_eq_true rfl, Nat.le_of_ble_eq_true rfl⟩ (Nat.le_of_ble_eq_true rfl) dX4_changePlaces_22 (fun r22 σ22 h => ?_)
    refine ww_if_eq (tgt := 30) C dX4_changePlaces_25 (by decide) (fun hc => ?_) (fun hc => ?_)
    · have h := h.1 hc
      refine ww_aload_n C 1 rfl dX4_changePlaces_30 ?_
      refine ww_iload_n C 2 rfl dX4_changePlaces_31 ?_
      refine ww_vv (n := 1) (As := [.int a1]) (rest := []) C (c_X4_exchange hb0 h) (row_o hb0) rfl nq_402 nq_403 nq_404 nq_19 nq_405 (by decide +kernel) rfl rfl ⟨Nat.le_of_ble_eq_true rfl, Nat.le_of_ble_eq_true rfl, Nat.le_of_ble_eq_true rfl, Nat.le_of_ble_eq_true rfl⟩ (Nat.le_of_ble_eq_true rfl) dX4_changePlaces_32 (fun σ32 h => ?_)
      refine ww_aload_n C 1 rfl dX4_changePlaces_35 ?_
      refine ww_iload_n C 0 rfl dX4_changePlaces_36 ?_
      refine ww_vi (n := 1) (As := [.int y14]) (rest := []) C (c_X4_replay hb0 h) (row_o hb0) rfl nq_351 nq_352 nq_353 nq_19 nq_354 (by decide +kernel) rfl rfl ⟨Nat.le_of_ble_eq_true rfl, Nat.le_of_ble_eq_true rfl, Nat.le_of_ble_eq_true rfl, Nat.le_of_ble_eq_true rfl⟩ (Nat.le_of_ble_eq_true rfl) dX4_changePlaces_37 (fun r37 σ37 h => ?_)
      refine ww_pop C rfl dX4_changePlaces_40 ?_
      refine ww_iconst (v := 0) C dX4_changePlaces_41 (by decide) ?_
      exact ww_zret C hr hlk (by decide) h dX4_changePlaces_42
    · have h := h.2 hc
      refine ww_iconst (v := 1) C dX4_changePlaces_28 (by decide) ?_
      exact ww_zret C hr hlk (by decide) h dX4_changePlaces_29
  · have h := h.2 hc
    refine ww_iconst (v := 0) C dX4_changePlaces_8 (by decide) ?_
    exact ww_zret C hr hlk (by decide) h dX4_changePlaces_9
set_option maxRecDepth 100000 in
set_option maxHeartbeats 4000000 in
theorem w_X4_open_L5b {p : Program} {l : Launch} {e : Env} {s : State} {m : MethodId} {args : Array Value} {below : List Frame} {meth : Method} {c : Code} {dC : Nat → ClassId} {dI : Nat → Nat → Nat} {cA : Nat → ClassId} {A : Nat → Prop} {al : Nat → Nat} {sh : List Kd} (C : Fx p s m args c cX4_open 5 yX4_open.cls dC dI cA A al) (hr : meth.sig.returnType = none) (hlk : meth.locks = false) {b0 : Nat} (hb0 : isRow sh b0) {a1 : Int32} {a2 : Int32} {a3 : Int32} {Q : St → Prop} {K33 : St → Prop} (hK33 : ∀ (σ : St), K33 σ → WW p l e (RM 0) s m args below meth c (MQ below (va_Qv Q (WPost dC dI cA al sh A) A) args s 0 0 A) dC dI cA A 5 0 0 al sh 33 [(0, .ref b0), (1, .int a1), (2, .int a2)] [] σ) {Rc : St → Int32 → Prop} (hRc : ∀ (σ : St) (x4 : Int32), Rc σ x4 → WW p l e (RM 0) s m args below meth c (MQ below (va_Qv Q (WPost dC dI cA al sh A) A) args s 0 0 A) dC dI cA A 5 0 0 al sh 5 [(0, .ref b0), (1, .int a1), (2, .int a2), (4, .int x4)] [] σ) {σ : St} {x4 : Int32} (h : m_X4_open_L5b b0 a1 a2 a3 Q K33 Rc σ x4) : WW p l e (RM 0) s m args below meth c (MQ below (va_Qv Q (WPost dC dI cA al sh A) A) args s 0 0 A) dC dI cA A 5 0 0 al sh 5 [(0, .ref b0), (1, .int a1), (2, .int a2), (4, .int x4)] [] σ := by
  unfold m_X4_open_L5b at h
  refine ww_iload C 3 rfl dX4_open_5 ?_
  refine ww_iload_n C 1 rfl dX4_open_7 ?_
  refine ww_icmp_le (tgt := 33) C dX4_open_8 (by decide) (fun hc => ?_) (fun hc => ?_)
  · have h := h.1 hc
    refine ww_sub [0, 1, 2] rfl ?_
    exact hK33 _ h
  · have h := h.2 hc
    refine ww_aload_n C 0 rfl dX4_open_11 ?_
    refine ww_getR C (row_o hb0) rfl inG4 1 (by decide) nq_52 rfl dX4_open_12 ?_
    refine ww_iload C 3 rfl dX4_open_15 ?_
    refine ww_aload_n C 0 rfl dX4_open_17 ?_
    refine ww_getR C (row_o hb0) rfl inG4 1 (by decide) nq_52 rfl dX4_open_18 ?_
    refine ww_iload C 3 rfl dX4_open_21 ?_
    refine ww_iconst (v := 1) C dX4_open_23 (by decide) ?_
    refine ww_isub C dX4_open_24 ?_
    refine ww_iald C (row_1 hb0) h.1 dX4_open_25 ?_
    have h := h.2
    refine ww_iast C (row_1 hb0) h.1 dX4_open_26 h.2 (fun σ26 h => ?_)
    refine ww_iinc (v := (x4 + (-1))) (lv' := [(4, .int (x4 + (-1))), (0, .ref b0), (1, .int a1), (2, .int a2)]) C 3 rfl dX4_open_27 rfl (by decide) rfl ?_
    refine ww_goto (tgt := 5) C dX4_open_30 (by decide) ?_
    refine ww_sub [1, 2, 3, 0] rfl ?_
    exact hRc _ _ h
set_option maxRecDepth 100000 in
set_option maxHeartbeats 4000000 in
theorem w_X4_open_L5 {p : Program} {l : Launch} {e : Env} {s : State} {m : MethodId} {args : Array Value} {below : List Frame} {meth : Method} {c : Code} {dC : Nat → ClassId} {dI : Nat → Nat → Nat} {cA : Nat → ClassId} {A : Nat → Prop} {al : Nat → Nat} {sh : List Kd} (C : Fx p s m args c cX4_open 5 yX4_open.cls dC dI cA A al) (hr : meth.sig.returnType = none) (hlk : meth.locks = false) {b0 : Nat} (hb0 : isRow sh b0) {a1 : Int32} {a2 : Int32} {a3 : Int32} {Q : St → Prop} {K33 : St → Prop} (hK33 : ∀ (σ : St), K33 σ → WW p l e (RM 0) s m args below meth c (MQ below (va_Qv Q (WPost dC dI cA al sh A) A) args s 0 0 A) dC dI cA A 5 0 0 al sh 33 [(0, .ref b0), (1, .int a1), (2, .int a2)] [] σ) : ∀ (f : Nat) (σ : St) (x4 : Int32), m_X4_open_L5 b0 a1 a2 a3 Q K33 f σ x4 → WW p l e (RM 0) s m args below meth c (MQ below (va_Qv Q (WPost dC dI cA al sh A) A) args s 0 0 A) dC dI cA A 5 0 0 al sh 5 [(0, .ref b0), (1, .int a1), (2, .int a2), (4, .int x4)] [] σ := by
  intro f
  induction f with
  | zero => intro σ x4 h; exact False.elim h
  | succ f ih => intro σ x4 h; exact w_X4_open_L5b (Q := Q) (a1 := a1) (a2 := a2) (a3 := a3) C hr hlk hb0 hK33 ih h
set_option maxRecDepth 100000 in
set_option maxHeartbeats 4000000 in
theorem w_X4_open_J33 {p : Program} {l : Launch} {e : Env} {s : State} {m : MethodId} {args : Array Value} {below : List Frame} {meth : Method} {c : Code} {dC : Nat → ClassId} {dI : Nat → Nat → Nat} {cA : Nat → ClassId} {A : Nat → Prop} {al : Nat → Nat} {sh : List Kd} (C : Fx p s m args c cX4_open 5 yX4_open.cls dC dI cA A al) (hr : meth.sig.returnType = none) (hlk : meth.locks = false) {b0 : Nat} (hb0 : isRow sh b0) {a1 : Int32} {a2 : Int32} {a3 : Int32} {Q : St → Prop} {σ : St} (h : m_X4_open_J33 b0 a1 a2 a3 Q σ) : WW p l e (RM 0) s m args below meth c (MQ below (va_Qv Q (WPost dC dI cA al sh A) A) args s 0 0 A) dC dI cA A 5 0 0 al sh 33 [(0, .ref b0), (1, .int a1), (2, .int a2)] [] σ := by
  unfold m_X4_open_J33 at h
  refine ww_aload_n C 0 rfl dX4_open_33 ?_
  refine ww_getR C (row_o hb0) rfl inG4 1 (by decide) nq_52 rfl dX4_open_34 ?_
  refine ww_iload_n C 1 rfl dX4_open_37 ?_
  refine ww_iload_n C 2 rfl dX4_open_38 ?_
  refine ww_iast C (row_1 hb0) h.1 dX4_open_39 h.2 (fun σ39 h => ?_)
  exact ww_vret C hr hlk h dX4_open_40
set_option maxRecDepth 100000 in
set_option maxHeartbeats 4000000 in
theorem c_X4_open {l : Launch} {dC : Nat → ClassId} {dI : Nat → Nat → Nat} {cA : Nat → ClassId} {al : Nat → Nat} {sh : List Kd} {b0 : Nat} (hb0 : isRow sh b0) {σ : St} {a1 : Int32} {a2 : Int32} {a3 : Int32} {Q : St → Prop} (h : m_X4_open b0 σ a1 a2 a3 Q) : ∀ sz, Met l yX4_open (wd yX4_open cX4_open 5 none) (RM 0) (va_Pc ([.ref b0, .int a1, .int a2, .int a3].map (cv al)) (WPre dC dI cA al sh σ sz)) (va_Qv Q (WPost dC dI cA al sh (AW al sh sz)) (AW al sh sz)) 0 0 (AW al sh sz) := by
  refine ww_met (Qc := fun A => va_Qv Q (WPost dC dI cA al sh A) A) (by decide +kernel) (Nat.le_of_ble_eq_true rfl) (fun p e s m args below meth c A C hr hlk => ?_)
  show WW p l e (RM 0) s m args below meth c (MQ below (va_Qv Q (WPost dC dI cA al sh A) A) args s 0 0 A) dC dI cA A 5 0 0 al sh 0 [(0, .ref b0), (1, .int a1), (2, .int a2), (3, .int a3)] [] σ
  unfold m_X4_open at h
  refine ww_iload_n C 3 rfl dX4_open_0 ?_
  refine ww_iconst (v := 1) C dX4_open_1 (by decide) ?_
  refine ww_isub C dX4_open_2 ?_
  refine ww_nmI h (fun y3 h => ?_)
  refine ww_istore (lv' := [(4, .int y3), (0, .ref b0), (1, .int a1), (2, .int a2), (3, .int a3)]) C dX4_open_3 (by decide) rfl ?_
  refine ww_sub [1, 2, 3, 0] rfl ?_
  obtain ⟨f, h⟩ := h
  exact w_X4_open_L5 (Q := Q) (a1 := a1) (a2 := a2) (a3 := a3) C hr hlk hb0 (fun σ h => by exact w_X4_open_J33 (Q := Q) (a1 := a1) (a2 := a2) (a3 := a3) C hr hlk hb0 h) f _ _ h
set_option maxRecDepth 100000 in
set_option maxHeartbeats 4000000 in
theorem c_X4_putBack {l : Launch} {dC : Nat → ClassId} {dI : Nat → Nat → Nat} {cA : Nat → ClassId} {al : Nat → Nat} {sh : List Kd} {b0 : Nat} (hb0 : isRow sh b0) {σ : St} {a1 : Int32} {a2 : Int32} {Q : St → Prop} (h : m_X4_putBack b0 σ a1 a2 Q) : ∀ sz, Met l yX4_putBack (wd yX4_putBack cX4_putBack 4 none) (RM 4) (va_Pc ([.ref b0, .int a1, .int a2].map (cv al)) (WPre dC dI cA al sh σ sz)) (va_Qv Q (WPost dC dI cA al sh (AW al sh sz)) (AW al sh sz)) 0 0 (AW al sh sz) := by
  refine ww_met (Qc := fun A => va_Qv Q (WPost dC dI cA al sh A) A) (by decide +kernel) (Nat.le_of_ble_eq_true rfl) (fun p e s m args below meth c A C hr hlk => ?_)
  show WW p l e (RM 4) s m args below meth c (MQ below (va_Qv Q (WPost dC dI cA al sh A) A) args s 0 0 A) dC dI cA A 4 0 0 al sh 0 [(0, .ref b0), (1, .int a1), (2, .int a2)] [] σ
  unfold m_X4_putBack at h
  refine ww_aload_n C 0 rfl dX4_putBack_0 ?_
  refine ww_getI C (row_o hb0) rfl inG4 0 (by decide) nq_82 rfl dX4_putBack_1 ?_
  refine ww_bipush (v := 20) C dX4_putBack_4 (by decide) ?_
  refine ww_icmp_ge (tgt := 41) C dX4_putBack_6 (by decide) (fun hc => ?_) (fun hc => ?_)
  · have h := h.1 hc
    exact ww_vret C hr hlk h dX4_putBack_41
  · have h := h.2 hc
    refine ww_iload_n C 1 rfl dX4_putBack_9 ?_
    refine ww_if_lt (tgt := 41) C dX4_putBack_10 (by decide) (fun hc => ?_) (fun hc => ?_)
    · have h := h.1 hc
      exact ww_vret C hr hlk h dX4_putBack_41
    · have h := h.2 hc
      refine ww_iload_n C 1 rfl dX4_putBack_13 ?_
      refine ww_aload_n C 0 rfl dX4_putBack_14 ?_
      refine ww_getI C (row_o hb0) rfl inG4 0 (by decide) nq_82 rfl dX4_putBack_15 ?_
      refine ww_icmp_gt (tgt := 41) C dX4_putBack_18 (by decide) (fun hc => ?_) (fun hc => ?_)
      · have h := h.1 hc
        exact ww_vret C hr hlk h dX4_putBack_41
      · have h := h.2 hc
        refine ww_aload_n C 0 rfl dX4_putBack_21 ?_
        refine ww_getI C (row_o hb0) rfl inG4 0 (by decide) nq_82 rfl dX4_putBack_22 ?_
        refine ww_iconst (v := 1) C dX4_putBack_25 (by decide) ?_
        refine ww_iadd C dX4_putBack_26 ?_
        refine ww_nmI h (fun y27 h => ?_)
        refine ww_istore_n (lv' := [(3, .int y27), (0, .ref b0), (1, .int a1), (2, .int a2)]) C dX4_putBack_27 rfl (by decide) rfl ?_
        refine ww_aload_n C 1 rfl dX4_putBack_28 ?_
        refine ww_iload_n C 2 rfl dX4_putBack_29 ?_
        refine ww_iload_n C 3 rfl dX4_putBack_30 ?_
        refine ww_iload_n C 0 rfl dX4_putBack_31 ?_
        refine ww_vv (n := 3) (As := [.int a1, .int a2, .int y27]) (rest := []) C (c_X4_open hb0 h) (row_o hb0) rfl nq_355 nq_356 nq_357 nq_19 nq_358 (by decide +kernel) rfl rfl ⟨Nat.le_of_ble_eq_true rfl, Nat.le_of_ble_eq_true rfl, Nat.le_of_ble_eq_true rfl, Nat.le_of_ble_eq_true rfl⟩ (Nat.le_of_ble_eq_true rfl) dX4_putBack_32 (fun σ32 h => ?_)
        refine ww_aload_n C 1 rfl dX4_putBack_35 ?_
        refine ww_iload_n C 0 rfl dX4_putBack_36 ?_
        refine ww_vi (n := 1) (As := [.int y27]) (rest := []) C (c_X4_replay hb0 h) (row_o hb0) rfl nq_351 nq_352 nq_353 nq_19 nq_354 (by decide +kernel) rfl rfl ⟨Nat.le_of_ble_eq_true rfl, Nat.le_of_ble_eq_true rfl, Nat.le_of_ble_eq_true rfl, Nat.le_of_ble_eq_true rfl⟩ (Nat.le_of_ble_eq_true rfl) dX4_putBack_37 (fun r37 σ37 h => ?_)
        refine ww_pop C rfl dX4_putBack_40 ?_
        exact ww_vret C hr hlk h dX4_putBack_41
set_option maxRecDepth 100000 in
set_option maxHeartbeats 4000000 in
theorem c_X0_takeBack {l : Launch} {dC : Nat → ClassId} {dI : Nat → Nat → Nat} {cA : Nat → ClassId} {al : Nat → Nat} {sh : List Kd} (hs : ShC sh) {b1 : Nat} (hb1 : isRow sh b1) {σ : St} {Q : St → Prop} (h : m_X0_takeBack b1 σ Q) : ∀ sz, Met l yX0_takeBack (wd yX0_takeBack cX0_takeBack 2 none) (RM 5) (va_Pc ([.ref 45, .ref b1].map (cv al)) (WPre dC dI cA al sh σ sz)) (va_Qv Q (WPost dC dI cA al sh (AW al sh sz)) (AW al sh sz)) 0 0 (AW al sh sz) := by
  refine ww_met (Qc := fun A => va_Qv Q (WPost dC dI cA al sh A) A) (by decide +kernel) (Nat.le_of_ble_eq_true rfl) (fun p e s m args below meth c A C hr hlk => ?_)
  show WW p l e (RM 5) s m args below meth c (MQ below (va_Qv Q (WPost dC dI cA al sh A) A) args s 0 0 A) dC dI cA A 2 0 0 al sh 0 [(0, .ref 45), (1, .ref b1)] [] σ
  unfold m_X0_takeBack at h
  refine ww_aload_n C 0 rfl dX0_takeBack_0 ?_
  refine ww_getI C (shc_45 hs) rfl inG0 0 (by decide) nq_363 rfl dX0_takeBack_1 ?_
  refine ww_if_ne (tgt := 8) C dX0_takeBack_4 (by decide) (fun hc => ?_) (fun hc => ?_)
  · have h := h.1 hc
    refine ww_aload_n C 0 rfl dX0_takeBack_8 ?_
    refine ww_dup C rfl dX0_takeBack_9 ?_
    refine ww_getI C (shc_45 hs) rfl inG0 0 (by decide) nq_363 rfl dX0_takeBack_10 ?_
    refine ww_iconst (v := 1) C dX0_takeBack_13 (by decide) ?_
    refine ww_isub C dX0_takeBack_14 ?_
    refine ww_putI C (shc_45 hs) rfl inG0 0 (by decide) nq_363 tyX0 tyX0_ok nmX0 rfl (by decide +kernel) rfl dX0_takeBack_15 h (fun σ15 h => ?_)
    refine ww_aload_n C 0 rfl dX0_takeBack_18 ?_
    refine ww_getR C (shc_45 hs) rfl inG0 2 (by decide) nq_91 rfl dX0_takeBack_19 ?_
    refine ww_aload_n C 0 rfl dX0_takeBack_22 ?_
    refine ww_getI C (shc_45 hs) rfl inG0 0 (by decide) nq_363 rfl dX0_takeBack_23 ?_
    refine ww_iald C (shc_47 hs) h.1 dX0_takeBack_26 ?_
    have h := h.2
    refine ww_iconst (v := -1) C dX0_takeBack_27 (by decide) ?_
    refine ww_icmp_eq (tgt := 56) C dX0_takeBack_28 (by decide) (fun hc => ?_) (fun hc => ?_)
    · have h := h.1 hc
      refine ww_aload_n C 1 rfl dX0_takeBack_56 ?_
      refine ww_aload_n C 0 rfl dX0_takeBack_57 ?_
      refine ww_getR C (shc_45 hs) rfl inG0 1 (by decide) nq_90 rfl dX0_takeBack_58 ?_
      refine ww_aload_n C 0 rfl dX0_takeBack_61 ?_
      refine ww_getI C (shc_45 hs) rfl inG0 0 (by decide) nq_363 rfl dX0_takeBack_62 ?_
      refine ww_iald C (shc_46 hs) h.1 dX0_takeBack_65 ?_
      have h := h.2
      refine ww_vi (n := 1) (As := [.int (σ15.1 46 (σ15.1 45 0).toNatClampNeg)]) (rest := []) C (c_X4_changePlaces hb1 h) (row_o hb1) rfl nq_426 nq_398 nq_399 nq_19 nq_400 (by decide +kernel) rfl rfl ⟨Nat.le_of_ble_eq_true rfl, Nat.le_of_ble_eq_true rfl, Nat.le_of_ble_eq_true rfl, Nat.le_of_ble_eq_true rfl⟩ (Nat.le_of_ble_eq_true rfl) dX0_takeBack_66 (fun r66 σ66 h => ?_)
      refine ww_pop C rfl dX0_takeBack_69 ?_
      exact ww_vret C hr hlk h dX0_takeBack_70
    · have h := h.2 hc
      refine ww_aload_n C 1 rfl dX0_takeBack_31 ?_
      refine ww_aload_n C 0 rfl dX0_takeBack_32 ?_
      refine ww_getR C (shc_45 hs) rfl inG0 1 (by decide) nq_90 rfl dX0_takeBack_33 ?_
      refine ww_aload_n C 0 rfl dX0_takeBack_36 ?_
      refine ww_getI C (shc_45 hs) rfl inG0 0 (by decide) nq_363 rfl dX0_takeBack_37 ?_
      refine ww_iald C (shc_46 hs) h.1 dX0_takeBack_40 ?_
      have h := h.2
      refine ww_aload_n C 0 rfl dX0_takeBack_41 ?_
      refine ww_getR C (shc_45 hs) rfl inG0 2 (by decide) nq_91 rfl dX0_takeBack_42 ?_
      refine ww_aload_n C 0 rfl dX0_takeBack_45 ?_
      refine ww_getI C (shc_45 hs) rfl inG0 0 (by decide) nq_363 rfl dX0_takeBack_46 ?_
      refine ww_iald C (shc_47 hs) h.1 dX0_takeBack_49 ?_
      have h := h.2
      refine ww_vv (n := 2) (As := [.int (σ15.1 46 (σ15.1 45 0).toNatClampNeg), .int (σ15.1 47 (σ15.1 45 0).toNatClampNeg)]) (rest := []) C (c_X4_putBack hb1 h) (row_o hb1) rfl nq_422 nq_423 nq_424 nq_19 nq_425 (by decide +kernel) rfl rfl ⟨Nat.le_of_ble_eq_true rfl, Nat.le_of_ble_eq_true rfl, Nat.le_of_ble_eq_true rfl, Nat.le_of_ble_eq_true rfl⟩ (Nat.le_of_ble_eq_true rfl) dX0_takeBack_50 (fun σ50 h => ?_)
      refine ww_goto (tgt := 70) C dX0_takeBack_53 (by decide) ?_
      exact ww_vret C hr hlk h dX0_takeBack_70
  · have h := h.2 hc
    exact ww_vret C hr hlk h dX0_takeBack_7
