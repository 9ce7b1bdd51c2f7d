set_option maxRecDepth 100000 in
set_option maxHeartbeats 4000000 in
theorem w_X9_keep_L21b {p : Program} {l : Launch} {e : Env} {s : State} {m : MethodId} {args : Array Value} {below : List Frame} {meth : Method} {c : Code} {dC : Nat → ClassId} {dI : Nat → Nat → Nat} {cA : Nat → ClassId} {A : Nat → Prop} {al : Nat → Nat} {sh : List Kd} (C : Fx p s m args c cX9_keep 3 yX9_keep.cls dC dI cA A al) (hr : meth.sig.returnType = some .int) (hlk : meth.locks = false) (hs : ShC sh) {a1 : Int32} {Q : Int32 → St → Prop} {K50 : St → Prop} (hK50 : ∀ (σ : St), K50 σ → WW p l e (RM 1) s m args below meth c (MQ below (va_Qi Q (WPost dC dI cA al sh A) A) args s 0 0 A) dC dI cA A 3 0 0 al sh 50 [(0, .ref 61)] [] σ) {Rc : St → Int32 → Prop} (hRc : ∀ (σ : St) (x2 : Int32), Rc σ x2 → WW p l e (RM 1) s m args below meth c (MQ below (va_Qi Q (WPost dC dI cA al sh A) A) args s 0 0 A) dC dI cA A 3 0 0 al sh 21 [(0, .ref 61), (1, .int a1), (2, .int x2)] [] σ) {σ : St} {x2 : Int32} (h : m_X9_keep_L21b a1 Q K50 Rc σ x2) : WW p l e (RM 1) s m args below meth c (MQ below (va_Qi Q (WPost dC dI cA al sh A) A) args s 0 0 A) dC dI cA A 3 0 0 al sh 21 [(0, .ref 61), (1, .int a1), (2, .int x2)] [] σ := by
  unfold m_X9_keep_L21b at h
  refine ww_iload_n C 2 rfl dX9_keep_21 ?_
  refine ww_bipush (v := 21) C dX9_keep_22 (by decide) ?_
  refine ww_icmp_ge (tgt := 50) C dX9_keep_24 (by decide) (fun hc => ?_) (fun hc => ?_)
  · have h := h.1 hc
    refine ww_sub [0] rfl ?_
    exact hK50 _ h
  · have h := h.2 hc
    refine ww_aload_n C 0 rfl dX9_keep_27 ?_
    refine ww_getR C (shc_61 hs) rfl inG9 38 (by decide) nq_143 rfl dX9_keep_28 ?_
    refine ww_bipush (v := 21) C dX9_keep_31 (by decide) ?_
    refine ww_iload_n C 1 rfl dX9_keep_33 ?_
    refine ww_imul C dX9_keep_34 ?_
    refine ww_iload_n C 2 rfl dX9_keep_35 ?_
    refine ww_iadd C dX9_keep_36 ?_
    refine ww_aload_n C 0 rfl dX9_keep_37 ?_
    refine ww_getR C (shc_61 hs) rfl inG9 4 (by decide) nq_123 rfl dX9_keep_38 ?_
    refine ww_iload_n C 2 rfl dX9_keep_41 ?_
    refine ww_iald C (shc_64 hs) h.1 dX9_keep_42 ?_
    have h := h.2
    refine ww_iast C (shc_84 hs) h.1 dX9_keep_43 h.2 (fun σ43 h => ?_)
    refine ww_iinc (v := (x2 + 1)) (lv' := [(2, .int (x2 + 1)), (0, .ref 61), (1, .int a1)]) C 2 rfl dX9_keep_44 rfl (by decide) rfl ?_
    refine ww_goto (tgt := 21) C dX9_keep_47 (by decide) ?_
    refine ww_sub [1, 2, 0] rfl ?_
    exact hRc _ _ h
set_option maxRecDepth 100000 in
set_option maxHeartbeats 4000000 in
theorem w_X9_keep_L21 {p : Program} {l : Launch} {e : Env} {s : State} {m : MethodId} {args : Array Value} {below : List Frame} {meth : Method} {c : Code} {dC : Nat → ClassId} {dI : Nat → Nat → Nat} {cA : Nat → ClassId} {A : Nat → Prop} {al : Nat → Nat} {sh : List Kd} (C : Fx p s m args c cX9_keep 3 yX9_keep.cls dC dI cA A al) (hr : meth.sig.returnType = some .int) (hlk : meth.locks = false) (hs : ShC sh) {a1 : Int32} {Q : Int32 → St → Prop} {K50 : St → Prop} (hK50 : ∀ (σ : St), K50 σ → WW p l e (RM 1) s m args below meth c (MQ below (va_Qi Q (WPost dC dI cA al sh A) A) args s 0 0 A) dC dI cA A 3 0 0 al sh 50 [(0, .ref 61)] [] σ) : ∀ (f : Nat) (σ : St) (x2 : Int32), m_X9_keep_L21 a1 Q K50 f σ x2 → WW p l e (RM 1) s m args below meth c (MQ below (va_Qi Q (WPost dC dI cA al sh A) A) args s 0 0 A) dC dI cA A 3 0 0 al sh 21 [(0, .ref 61), (1, .int a1), (2, .int x2)] [] σ := by
  intro f
  induction f with
  | zero => intro σ x2 h; exact False.elim h
  | succ f ih => intro σ x2 h; exact w_X9_keep_L21b (Q := Q) (a1 := a1) C hr hlk hs hK50 ih h
set_option maxRecDepth 100000 in
set_option maxHeartbeats 4000000 in
theorem w_X9_keep_J50 {p : Program} {l : Launch} {e : Env} {s : State} {m : MethodId} {args : Array Value} {below : List Frame} {meth : Method} {c : Code} {dC : Nat → ClassId} {dI : Nat → Nat → Nat} {cA : Nat → ClassId} {A : Nat → Prop} {al : Nat → Nat} {sh : List Kd} (C : Fx p s m args c cX9_keep 3 yX9_keep.cls dC dI cA A al) (hr : meth.sig.returnType = some .int) (hlk : meth.locks = false) (hs : ShC sh) {a1 : Int32} {Q : Int32 → St → Prop} {σ : St} (h : m_X9_keep_J50 a1 Q σ) : WW p l e (RM 1) s m args below meth c (MQ below (va_Qi Q (WPost dC dI cA al sh A) A) args s 0 0 A) dC dI cA A 3 0 0 al sh 50 [(0, .ref 61)] [] σ := by
  unfold m_X9_keep_J50 at h
  refine ww_aload_n C 0 rfl dX9_keep_50 ?_
  refine ww_iconst (v := 0) C dX9_keep_51 (by decide) ?_
  refine ww_vi (n := 1) (As := [.int 0]) (rest := []) C (c_X9_many hs h) (shc_61 hs) rfl nq_291 nq_292 nq_293 nq_5 nq_294 (by decide +kernel) rfl rfl ⟨Nat.le_of_ble_eq_true rfl, Nat.le_of_ble_eq_true rfl, Nat.le_of_ble_eq_true rfl, Nat.le_of_ble_eq_true rfl⟩ (Nat.le_of_ble_eq_true rfl) dX9_keep_52 (fun r52 σ52 h => ?_)
  exact ww_iret C hr hlk h dX9_keep_55
set_option maxRecDepth 100000 in
set_option maxHeartbeats 4000000 in
theorem c_X9_keep {l : Launch} {dC : Nat → ClassId} {dI : Nat → Nat → Nat} {cA : Nat → ClassId} {al : Nat → Nat} {sh : List Kd} (hs : ShC sh) {σ : St} {a1 : Int32} {Q : Int32 → St → Prop} (h : m_X9_keep σ a1 Q) : ∀ sz, Met l yX9_keep (wd yX9_keep cX9_keep 3 (some .int)) (RM 1) (va_Pc ([.ref 61, .int a1].map (cv al)) (WPre dC dI cA al sh σ sz)) (va_Qi Q (WPost dC dI cA al sh (AW al sh sz)) (AW al sh sz)) 0 0 (AW al sh sz) := by
  refine ww_met (Qc := fun A => va_Qi Q (WPost dC dI cA al sh A) A) (by decide +kernel) (Nat.le_of_ble_eq_true rfl) (fun p e s m args below meth c A C hr hlk => ?_)
  show WW p l e (RM 1) s m args below meth c (MQ below (va_Qi Q (WPost dC dI cA al sh A) A) args s 0 0 A) dC dI cA A 3 0 0 al sh 0 [(0, .ref 61), (1, .int a1)] [] σ
  unfold m_X9_keep at h
  refine ww_iload_n C 1 rfl dX9_keep_0 ?_
  refine ww_i2l C dX9_keep_1 ?_
  refine ww_lconst (v := 0) C dX9_keep_2 (by decide) ?_
  refine ww_lconst (v := 1) C dX9_keep_3 (by decide) ?_
  refine ww_si (n := 3) (As := [.long (a1.toInt64), .long 0, .long 1]) (rest := []) C (c_X9_in hs h) nq_159 nq_160 nq_5 nq_161 (by decide +kernel) rfl rfl ⟨Nat.le_of_ble_eq_true rfl, Nat.le_of_ble_eq_true rfl, Nat.le_of_ble_eq_true rfl, Nat.le_of_ble_eq_true rfl⟩ (Nat.le_of_ble_eq_true rfl) dX9_keep_4 (fun r4 σ4 h => ?_)
  refine ww_if_ne (tgt := 12) C dX9_keep_7 (by decide) (fun hc => ?_) (fun hc => ?_)
  · have h := h.1 hc
    refine ww_aload_n C 0 rfl dX9_keep_12 ?_
    refine ww_getR C (shc_61 hs) rfl inG9 37 (by decide) nq_142 rfl dX9_keep_13 ?_
    refine ww_iload_n C 1 rfl dX9_keep_16 ?_
    refine ww_iconst (v := 1) C dX9_keep_17 (by decide) ?_
    refine ww_zast C (shc_83 hs) h.1 dX9_keep_18 h.2 (fun σ18 h => ?_)
    refine ww_iconst (v := 0) C dX9_keep_19 (by decide) ?_
    refine ww_istore_n (lv' := [(2, .int 0), (0, .ref 61), (1, .int a1)]) C dX9_keep_20 rfl (by decide) rfl ?_
    refine ww_sub [1, 2, 0] rfl ?_
    obtain ⟨f, h⟩ := h
    exact w_X9_keep_L21 (Q := Q) (a1 := a1) C hr hlk hs (fun σ h => by exact w_X9_keep_J50 (Q := Q) (a1 := a1) C hr hlk hs h) f _ _ h
  · have h := h.2 hc
    refine ww_iconst (v := -1) C dX9_keep_10 (by decide) ?_
    exact ww_iret C hr hlk h dX9_keep_11
set_option maxRecDepth 100000 in
set_option maxHeartbeats 4000000 in
theorem w_X9_again_L26b {p : Program} {l : Launch} {e : Env} {s : State} {m : MethodId} {args : Array Value} {below : List Frame} {meth : Method} {c : Code} {dC : Nat → ClassId} {dI : Nat → Nat → Nat} {cA : Nat → ClassId} {A : Nat → Prop} {al : Nat → Nat} {sh : List Kd} (C : Fx p s m args c cX9_again 3 yX9_again.cls dC dI cA A al) (hr : meth.sig.returnType = some .int) (hlk : meth.locks = false) (hs : ShC sh) {a1 : Int32} {Q : Int32 → St → Prop} {K55 : St → Prop} (hK55 : ∀ (σ : St), K55 σ → WW p l e (RM 1) s m args below meth c (MQ below (va_Qi Q (WPost dC dI cA al sh A) A) args s 0 0 A) dC dI cA A 3 0 0 al sh 55 [(0, .ref 61)] [] σ) {Rc : St → Int32 → Prop} (hRc : ∀ (σ : St) (x2 : Int32), Rc σ x2 → WW p l e (RM 1) s m args below meth c (MQ below (va_Qi Q (WPost dC dI cA al sh A) A) args s 0 0 A) dC dI cA A 3 0 0 al sh 26 [(0, .ref 61), (1, .int a1), (2, .int x2)] [] σ) {σ : St} {x2 : Int32} (h : m_X9_again_L26b a1 Q K55 Rc σ x2) : WW p l e (RM 1) s m args below meth c (MQ below (va_Qi Q (WPost dC dI cA al sh A) A) args s 0 0 A) dC dI cA A 3 0 0 al sh 26 [(0, .ref 61), (1, .int a1), (2, .int x2)] [] σ := by
  unfold m_X9_again_L26b at h
  refine ww_iload_n C 2 rfl dX9_again_26 ?_
  refine ww_bipush (v := 21) C dX9_again_27 (by decide) ?_
  refine ww_icmp_ge (tgt := 55) C dX9_again_29 (by decide) (fun hc => ?_) (fun hc => ?_)
  · have h := h.1 hc
    refine ww_sub [0] rfl ?_
    exact hK55 _ h
  · have h := h.2 hc
    refine ww_aload_n C 0 rfl dX9_again_32 ?_
    refine ww_getR C (shc_61 hs) rfl inG9 4 (by decide) nq_123 rfl dX9_again_33 ?_
    refine ww_iload_n C 2 rfl dX9_again_36 ?_
    refine ww_aload_n C 0 rfl dX9_again_37 ?_
    refine ww_getR C (shc_61 hs) rfl inG9 38 (by decide) nq_143 rfl dX9_again_38 ?_
    refine ww_bipush (v := 21) C dX9_again_41 (by decide) ?_
    refine ww_iload_n C 1 rfl dX9_again_43 ?_
    refine ww_imul C dX9_again_44 ?_
    refine ww_iload_n C 2 rfl dX9_again_45 ?_
    refine ww_iadd C dX9_again_46 ?_
    refine ww_iald C (shc_84 hs) h.1 dX9_again_47 ?_
    have h := h.2
    refine ww_iast C (shc_64 hs) h.1 dX9_again_48 h.2 (fun σ48 h => ?_)
    refine ww_iinc (v := (x2 + 1)) (lv' := [(2, .int (x2 + 1)), (0, .ref 61), (1, .int a1)]) C 2 rfl dX9_again_49 rfl (by decide) rfl ?_
    refine ww_goto (tgt := 26) C dX9_again_52 (by decide) ?_
    refine ww_sub [1, 2, 0] rfl ?_
    exact hRc _ _ h
set_option maxRecDepth 100000 in
set_option maxHeartbeats 4000000 in
theorem w_X9_again_L26 {p : Program} {l : Launch} {e : Env} {s : State} {m : MethodId} {args : Array Value} {below : List Frame} {meth : Method} {c : Code} {dC : Nat → ClassId} {dI : Nat → Nat → Nat} {cA : Nat → ClassId} {A : Nat → Prop} {al : Nat → Nat} {sh : List Kd} (C : Fx p s m args c cX9_again 3 yX9_again.cls dC dI cA A al) (hr : meth.sig.returnType = some .int) (hlk : meth.locks = false) (hs : ShC sh) {a1 : Int32} {Q : Int32 → St → Prop} {K55 : St → Prop} (hK55 : ∀ (σ : St), K55 σ → WW p l e (RM 1) s m args below meth c (MQ below (va_Qi Q (WPost dC dI cA al sh A) A) args s 0 0 A) dC dI cA A 3 0 0 al sh 55 [(0, .ref 61)] [] σ) : ∀ (f : Nat) (σ : St) (x2 : Int32), m_X9_again_L26 a1 Q K55 f σ x2 → WW p l e (RM 1) s m args below meth c (MQ below (va_Qi Q (WPost dC dI cA al sh A) A) args s 0 0 A) dC dI cA A 3 0 0 al sh 26 [(0, .ref 61), (1, .int a1), (2, .int x2)] [] σ := by
  intro f
  induction f with
  | zero => intro σ x2 h; exact False.elim h
  | succ f ih => intro σ x2 h; exact w_X9_again_L26b (Q := Q) (a1 := a1) C hr hlk hs hK55 ih h
set_option maxRecDepth 100000 in
set_option maxHeartbeats 4000000 in
theorem w_X9_again_J55 {p : Program} {l : Launch} {e : Env} {s : State} {m : MethodId} {args : Array Value} {below : List Frame} {meth : Method} {c : Code} {dC : Nat → ClassId} {dI : Nat → Nat → Nat} {cA : Nat → ClassId} {A : Nat → Prop} {al : Nat → Nat} {sh : List Kd} (C : Fx p s m args c cX9_again 3 yX9_again.cls dC dI cA A al) (hr : meth.sig.returnType = some .int) (hlk : meth.locks = false) (hs : ShC sh) {a1 : Int32} {Q : Int32 → St → Prop} {σ : St} (h : m_X9_again_J55 a1 Q σ) : WW p l e (RM 1) s m args below meth c (MQ below (va_Qi Q (WPost dC dI cA al sh A) A) args s 0 0 A) dC dI cA A 3 0 0 al sh 55 [(0, .ref 61)] [] σ := by
  unfold m_X9_again_J55 at h
  refine ww_aload_n C 0 rfl dX9_again_55 ?_
  refine ww_iconst (v := 0) C dX9_again_56 (by decide) ?_
  refine ww_putI C (shc_61 hs) rfl inG9 10 (by decide) nq_290 tyX9 tyX9_ok nmX9 rfl (by decide +kernel) rfl dX9_again_57 h (fun σ57 h => ?_)
  refine ww_aload_n C 0 rfl dX9_again_60 ?_
  refine ww_iconst (v := 0) C dX9_again_61 (by decide) ?_
  refine ww_vi (n := 1) (As := [.int 0]) (rest := []) C (c_X9_many hs h) (shc_61 hs) rfl nq_291 nq_292 nq_293 nq_5 nq_294 (by decide +kernel) rfl rfl ⟨Nat.le_of_ble_eq_true rfl, Nat.le_of_ble_eq_true rfl, Nat.le_of_ble_eq_true rfl, Nat.le_of_ble_eq_true rfl⟩ (Nat.le_of_ble_eq_true rfl) dX9_again_62 (fun r62 σ62 h => ?_)
  exact ww_iret C hr hlk h dX9_again_65
set_option maxRecDepth 100000 in
set_option maxHeartbeats 4000000 in
theorem c_X9_again {l : Launch} {dC : Nat → ClassId} {dI : Nat → Nat → Nat} {cA : Nat → ClassId} {al : Nat → Nat} {sh : List Kd} (hs : ShC sh) {σ : St} {a1 : Int32} {Q : Int32 → St → Prop} (h : m_X9_again σ a1 Q) : ∀ sz, Met l yX9_again (wd yX9_again cX9_again 3 (some .int)) (RM 1) (va_Pc ([.ref 61, .int a1].map (cv al)) (WPre dC dI cA al sh σ sz)) (va_Qi Q (WPost dC dI cA al sh (AW al sh sz)) (AW al sh sz)) 0 0 (AW al sh sz) := by
  refine ww_met (Qc := fun A => va_Qi Q (WPost dC dI cA al sh A) A) (by decide +kernel) (Nat.le_of_ble_eq_true rfl) (fun p e s m args below meth c A C hr hlk => ?_)
  show WW p l e (RM 1) s m args below meth c (MQ below (va_Qi Q (WPost dC dI cA al sh A) A) args s 0 0 A) dC dI cA A 3 0 0 al sh 0 [(0, .ref 61), (1, .int a1)] [] σ
  unfold m_X9_again at h
  refine ww_iload_n C 1 rfl dX9_again_0 ?_
  refine ww_i2l C dX9_again_1 ?_
  refine ww_lconst (v := 0) C dX9_again_2 (by decide) ?_
  refine ww_lconst (v := 1) C dX9_again_3 (by decide) ?_
  refine ww_si (n := 3) (As := [.long (a1.toInt64), .long 0, .long 1]) (rest := []) C (c_X9_in hs h) nq_159 nq_160 nq_5 nq_161 (by decide +kernel) rfl rfl ⟨Nat.le_of_ble_eq_true rfl, Nat.le_of_ble_eq_true rfl, Nat.le_of_ble_eq_true rfl, Nat.le_of_ble_eq_true rfl⟩ (Nat.le_of_ble_eq_true rfl) dX9_again_4 (fun r4 σ4 h => ?_)
  refine ww_if_ne (tgt := 12) C dX9_again_7 (by decide) (fun hc => ?_) (fun hc => ?_)
  · have h := h.1 hc
    refine ww_aload_n C 0 rfl dX9_again_12 ?_
    refine ww_getR C (shc_61 hs) rfl inG9 37 (by decide) nq_142 rfl dX9_again_13 ?_
    refine ww_iload_n C 1 rfl dX9_again_16 ?_
    refine ww_zald C (shc_83 hs) h.1 dX9_again_17 ?_
    have h := h.2
    refine ww_if_ne (tgt := 24) C dX9_again_18 (by decide) (fun hc => ?_) (fun hc => ?_)
    · have h := h.1 hc
      refine ww_iconst (v := 0) C dX9_again_24 (by decide) ?_
      refine ww_istore_n (lv' := [(2, .int 0), (0, .ref 61), (1, .int a1)]) C dX9_again_25 rfl (by decide) rfl ?_
      refine ww_sub [1, 2, 0] rfl ?_
      obtain ⟨f, h⟩ := h
      exact w_X9_again_L26 (Q := Q) (a1 := a1) C hr hlk hs (fun σ h => by exact w_X9_again_J55 (Q := Q) (a1 := a1) C hr hlk hs h) f _ _ h
    · have h := h.2 hc
      refine ww_bipush (v := -3) C dX9_again_21 (by decide) ?_
      exact ww_iret C hr hlk h dX9_again_23
  · have h := h.2 hc
    refine ww_iconst (v := -1) C dX9_again_10 (by decide) ?_
    exact ww_iret C hr hlk h dX9_again_11
set_option maxRecDepth 100000 in
set_option maxHeartbeats 4000000 in
theorem w_X9_meetingCells_L9b {p : Program} {l : Launch} {e : Env} {s : State} {m : MethodId} {args : Array Value} {below : List Frame} {meth : Method} {c : Code} {dC : Nat → ClassId} {dI : Nat → Nat → Nat} {cA : Nat → ClassId} {A : Nat → Prop} {al : Nat → Nat} {sh : List Kd} (C : Fx p s m args c cX9_meetingCells 3 yX9_meetingCells.cls dC dI cA A al) (hr : meth.sig.returnType = some .int) (hlk : meth.locks = false) (hs : ShC sh) {Q : Int32 → St → Prop} {K38 : St → Int32 → Prop} (hK38 : ∀ (σ : St) (x1 : Int32), K38 σ x1 → WW p l e (RM 4) s m args below meth c (MQ below (va_Qi Q (WPost dC dI cA al sh A) A) args s 0 0 A) dC dI cA A 3 0 0 al sh 38 [(1, .int x1)] [] σ) {Rc : St → Int32 → Int32 → Prop} (hRc : ∀ (σ : St) (x1 : Int32) (x2 : Int32), Rc σ x1 x2 → WW p l e (RM 4) s m args below meth c (MQ below (va_Qi Q (WPost dC dI cA al sh A) A) args s 0 0 A) dC dI cA A 3 0 0 al sh 9 [(0, .ref 61), (1, .int x1), (2, .int x2)] [] σ) {σ : St} {x1 : Int32} {x2 : Int32} (h : m_X9_meetingCells_L9b Q K38 Rc σ x1 x2) : WW p l e (RM 4) s m args below meth c (MQ below (va_Qi Q (WPost dC dI cA al sh A) A) args s 0 0 A) dC dI cA A 3 0 0 al sh 9 [(0, .ref 61), (1, .int x1), (2, .int x2)] [] σ := by
  unfold m_X9_meetingCells_L9b at h
  refine ww_iload_n C 2 rfl dX9_meetingCells_9 ?_
  refine ww_iconst (v := 4) C dX9_meetingCells_10 (by decide) ?_
  refine ww_icmp_ge (tgt := 38) C dX9_meetingCells_11 (by decide) (fun hc => ?_) (fun hc => ?_)
  · have h := h.1 hc
    refine ww_sub [1] rfl ?_
    exact hK38 _ _ h
  · have h := h.2 hc
    refine ww_iload_n C 1 rfl dX9_meetingCells_14 ?_
    refine ww_aload_n C 0 rfl dX9_meetingCells_15 ?_
    refine ww_iload_n C 2 rfl dX9_meetingCells_16 ?_
    refine ww_vi (n := 1) (As := [.int x2]) (rest := [.int x1]) C (c_X9_meetingsOf hs h) (shc_61 hs) rfl nq_544 nq_545 nq_546 nq_5 nq_547 (by decide +kernel) rfl rfl ⟨Nat.le_of_ble_eq_true rfl, Nat.le_of_ble_eq_true rfl, Nat.le_of_ble_eq_true rfl, Nat.le_of_ble_eq_true rfl⟩ (Nat.le_of_ble_eq_true rfl) dX9_meetingCells_17 (fun r17 σ17 h => ?_)
    refine ww_if_le (tgt := 29) C dX9_meetingCells_20 (by decide) (fun hc => ?_) (fun hc => ?_)
    · have h := h.1 hc
      refine ww_iconst (v := 0) C dX9_meetingCells_29 (by decide) ?_
      refine ww_ior C dX9_meetingCells_30 ?_
      refine ww_nmI h (fun y31 h => ?_)
      refine ww_istore_n (lv' := [(1, .int y31), (0, .ref 61), (2, .int x2)]) C dX9_meetingCells_31 rfl (by decide) rfl ?_
      refine ww_iinc (v := (x2 + 1)) (lv' := [(2, .int (x2 + 1)), (1, .int y31), (0, .ref 61)]) C 2 rfl dX9_meetingCells_32 rfl (by decide) rfl ?_
      refine ww_goto (tgt := 9) C dX9_meetingCells_35 (by decide) ?_
      refine ww_sub [2, 1, 0] rfl ?_
      exact hRc _ _ _ h
    · have h := h.2 hc
      refine ww_iconst (v := 1) C dX9_meetingCells_23 (by decide) ?_
      refine ww_iload_n C 2 rfl dX9_meetingCells_24 ?_
      refine ww_ishl C dX9_meetingCells_25 ?_
      refine ww_goto (tgt := 30) C dX9_meetingCells_26 (by decide) ?_
      refine ww_ior C dX9_meetingCells_30 ?_
      refine ww_nmI h (fun y31 h => ?_)
      refine ww_istore_n (lv' := [(1, .int y31), (0, .ref 61), (2, .int x2)]) C dX9_meetingCells_31 rfl (by decide) rfl ?_
      refine ww_iinc (v := (x2 + 1)) (lv' := [(2, .int (x2 + 1)), (1, .int y31), (0, .ref 61)]) C 2 rfl dX9_meetingCells_32 rfl (by decide) rfl ?_
      refine ww_goto (tgt := 9) C dX9_meetingCells_35 (by decide) ?_
      refine ww_sub [2, 1, 0] rfl ?_
      exact hRc _ _ _ h
set_option maxRecDepth 100000 in
set_option maxHeartbeats 4000000 in
theorem w_X9_meetingCells_L9 {p : Program} {l : Launch} {e : Env} {s : State} {m : MethodId} {args : Array Value} {below : List Frame} {meth : Method} {c : Code} {dC : Nat → ClassId} {dI : Nat → Nat → Nat} {cA : Nat → ClassId} {A : Nat → Prop} {al : Nat → Nat} {sh : List Kd} (C : Fx p s m args c cX9_meetingCells 3 yX9_meetingCells.cls dC dI cA A al) (hr : meth.sig.returnType = some .int) (hlk : meth.locks = false) (hs : ShC sh) {Q : Int32 → St → Prop} {K38 : St → Int32 → Prop} (hK38 : ∀ (σ : St) (x1 : Int32), K38 σ x1 → WW p l e (RM 4) s m args below meth c (MQ below (va_Qi Q (WPost dC dI cA al sh A) A) args s 0 0 A) dC dI cA A 3 0 0 al sh 38 [(1, .int x1)] [] σ) : ∀ (f : Nat) (σ : St) (x1 : Int32) (x2 : Int32), m_X9_meetingCells_L9 Q K38 f σ x1 x2 → WW p l e (RM 4) s m args below meth c (MQ below (va_Qi Q (WPost dC dI cA al sh A) A) args s 0 0 A) dC dI cA A 3 0 0 al sh 9 [(0, .ref 61), (1, .int x1), (2, .int x2)] [] σ := by
  intro f
  induction f with
  | zero => intro σ x1 x2 h; exact False.elim h
  | succ f ih => intro σ x1 x2 h; exact w_X9_meetingCells_L9b (Q := Q) C hr hlk hs hK38 ih h
set_option maxRecDepth 100000 in
set_option maxHeartbeats 4000000 in
theorem w_X9_meetingCells_J38 {p : Program} {l : Launch} {e : Env} {s : State} {m : MethodId} {args : Array Value} {below : List Frame} {meth : Method} {c : Code} {dC : Nat → ClassId} {dI : Nat → Nat → Nat} {cA : Nat → ClassId} {A : Nat → Prop} {al : Nat → Nat} {sh : List Kd} (C : Fx p s m args c cX9_meetingCells 3 yX9_meetingCells.cls dC dI cA A al) (hr : meth.sig.returnType = some .int) (hlk : meth.locks = false) (hs : ShC sh) {Q : Int32 → St → Prop} {σ : St} {x1 : Int32} (h : m_X9_meetingCells_J38 Q σ x1) : WW p l e (RM 4) s m args below meth c (MQ below (va_Qi Q (WPost dC dI cA al sh A) A) args s 0 0 A) dC dI cA A 3 0 0 al sh 38 [(1, .int x1)] [] σ := by
  unfold m_X9_meetingCells_J38 at h
  refine ww_iload_n C 0 rfl dX9_meetingCells_38 ?_
  exact ww_iret C hr hlk h dX9_meetingCells_39
set_option maxRecDepth 100000 in
set_option maxHeartbeats 4000000 in
theorem c_X9_meetingCells {l : Launch} {dC : Nat → ClassId} {dI : Nat → Nat → Nat} {cA : Nat → ClassId} {al : Nat → Nat} {sh : List Kd} (hs : ShC sh) {σ : St} {Q : Int32 → St → Prop} (h : m_X9_meetingCells σ Q) : ∀ sz, Met l yX9_meetingCells (wd yX9_meetingCells cX9_meetingCells 3 (some .int)) (RM 4) (va_Pc ([.ref 61].map (cv al)) (WPre dC dI cA al sh σ sz)) (va_Qi Q (WPost dC dI cA al sh (AW al sh sz)) (AW al sh sz)) 0 0 (AW al sh sz) := by
  refine ww_met (Qc := fun A => va_Qi Q (WPost dC dI cA al sh A) A) (by decide +kernel) (Nat.le_of_ble_eq_true rfl) (fun p e s m args below meth c A C hr hlk => ?_)
  show WW p l e (RM 4) s m args below meth c (MQ below (va_Qi Q (WPost dC dI cA al sh A) A) args s 0 0 A) dC dI cA A 3 0 0 al sh 0 [(0, .ref 61)] [] σ
  unfold m_X9_meetingCells at h
  refine ww_aload_n C 0 rfl dX9_meetingCells_0 ?_
  refine ww_iconst (v := 0) C dX9_meetingCells_1 (by decide) ?_
  refine ww_vv (n := 1) (As := [.int 0]) (rest := []) C (c_X9_findBefore hs h) (shc_61 hs) rfl nq_517 nq_518 nq_519 nq_5 nq_520 (by decide +kernel) rfl rfl ⟨Nat.le_of_ble_eq_true rfl, Nat.le_of_ble_eq_true rfl, Nat.le_of_ble_eq_true rfl, Nat.le_of_ble_eq_true rfl⟩ (Nat.le_of_ble_eq_true rfl) dX9_meetingCells_2 (fun σ2 h => ?_)
  refine ww_iconst (v := 0) C dX9_meetingCells_5 (by decide) ?_
  refine ww_istore_n (lv' := [(1, .int 0), (0, .ref 61)]) C dX9_meetingCells_6 rfl (by decide) rfl ?_
  refine ww_iconst (v := 0) C dX9_meetingCells_7 (by decide) ?_
  refine ww_istore_n (lv' := [(2, .int 0), (1, .int 0), (0, .ref 61)]) C dX9_meetingCells_8 rfl (by decide) rfl ?_
  refine ww_sub [2, 1, 0] rfl ?_
  obtain ⟨f, h⟩ := h
  exact w_X9_meetingCells_L9 (Q := Q) C hr hlk hs (fun σ x1 h => by exact w_X9_meetingCells_J38 (Q := Q) C hr hlk hs h) f _ _ _ h
set_option maxRecDepth 100000 in
set_option maxHeartbeats 4000000 in
theorem c_X9_count {l : Launch} {dC : Nat → ClassId} {dI : Nat → Nat → Nat} {cA : Nat → ClassId} {al : Nat → Nat} {sh : List Kd} (hs : ShC sh) {σ : St} {a1 : Int32} {Q : Int32 → St → Prop} (h : m_X9_count σ a1 Q) : ∀ sz, Met l yX9_count (wd yX9_count cX9_count 2 (some .int)) (RM 5) (va_Pc ([.ref 61, .int a1].map (cv al)) (WPre dC dI cA al sh σ sz)) (va_Qi Q (WPost dC dI cA al sh (AW al sh sz)) (AW al sh sz)) 0 0 (AW al sh sz) := by
  refine ww_met (Qc := fun A => va_Qi Q (WPost dC dI cA al sh A) A) (by decide +kernel) (Nat.le_of_ble_eq_true rfl) (fun p e s m args below meth c A C hr hlk => ?_)
  show WW p l e (RM 5) s m args below meth c (MQ below (va_Qi Q (WPost dC dI cA al sh A) A) args s 0 0 A) dC dI cA A 2 0 0 al sh 0 [(0, .ref 61), (1, .int a1)] [] σ
  unfold m_X9_count at h
  refine ww_aload_n C 0 rfl dX9_count_0 ?_
  refine ww_iconst (v := 0) C dX9_count_1 (by decide) ?_
  refine ww_vv (n := 1) (As := [.int 0]) (rest := []) C (c_X9_findHeld hs h) (shc_61 hs) rfl nq_323 nq_324 nq_325 nq_5 nq_326 (by decide +kernel) rfl rfl ⟨Nat.le_of_ble_eq_true rfl, Nat.le_of_ble_eq_true rfl, Nat.le_of_ble_eq_true rfl, Nat.le_of_ble_eq_true rfl⟩ (Nat.le_of_ble_eq_true rfl) dX9_count_2 (fun σ2 h => ?_)
  refine ww_iload_n C 1 rfl dX9_count_5 ?_
  by_cases hc0 : a1 = 0
  · refine ww_table (off := 50) (tgt := 56) C dX9_count_6 (by rw [hc0]; decide) (by rw [hc0]; decide) (by rw [hc0]; rfl) (by decide) ?_
    have h := h.1 hc0
    refine ww_aload_n C 0 rfl dX9_count_56 ?_
    refine ww_getI C (shc_61 hs) rfl inG9 6 (by decide) nq_158 rfl dX9_count_57 ?_
    exact ww_iret C hr hlk h dX9_count_60
  · skip
    by_cases hc1 : a1 = 1
    · refine ww_table (off := 55) (tgt := 61) C dX9_count_6 (by rw [hc1]; decide) (by rw [hc1]; decide) (by rw [hc1]; rfl) (by decide) ?_
      have h := h.2.1 hc1
      refine ww_aload_n C 0 rfl dX9_count_61 ?_
      refine ww_iconst (v := 0) C dX9_count_62 (by decide) ?_
      refine ww_vi (n := 1) (As := [.int 0]) (rest := []) C (c_X9_many hs h) (shc_61 hs) rfl nq_291 nq_292 nq_293 nq_5 nq_294 (by decide +kernel) rfl rfl ⟨Nat.le_of_ble_eq_true rfl, Nat.le_of_ble_eq_true rfl, Nat.le_of_ble_eq_true rfl, Nat.le_of_ble_eq_true rfl⟩ (Nat.le_of_ble_eq_true rfl) dX9_count_63 (fun r63 σ63 h => ?_)
      exact ww_iret C hr hlk h dX9_count_66
    · skip
      by_cases hc2 : a1 = 2
      · refine ww_table (off := 61) (tgt := 67) C dX9_count_6 (by rw [hc2]; decide) (by rw [hc2]; decide) (by rw [hc2]; rfl) (by decide) ?_
        have h := h.2.2.1 hc2
        refine ww_aload_n C 0 rfl dX9_count_67 ?_
        refine ww_getI C (shc_61 hs) rfl inG9 2 (by decide) nq_237 rfl dX9_count_68 ?_
        exact ww_iret C hr hlk h dX9_count_71
      · skip
        by_cases hc3 : a1 = 3
        · refine ww_table (off := 66) (tgt := 72) C dX9_count_6 (by rw [hc3]; decide) (by rw [hc3]; decide) (by rw [hc3]; rfl) (by decide) ?_
          have h := h.2.2.2.1 hc3
          refine ww_aload_n C 0 rfl dX9_count_72 ?_
          refine ww_getI C (shc_61 hs) rfl inG9 3 (by decide) nq_238 rfl dX9_count_73 ?_
          exact ww_iret C hr hlk h dX9_count_76
        · skip
          by_cases hc4 : a1 = 4
          · refine ww_table (off := 71) (tgt := 77) C dX9_count_6 (by rw [hc4]; decide) (by rw [hc4]; decide) (by rw [hc4]; rfl) (by decide) ?_
            have h := h.2.2.2.2.1 hc4
            refine ww_aload_n C 0 rfl dX9_count_77 ?_
            refine ww_vi (n := 0) (As := []) (rest := []) C (c_X9_writeHeld hs h) (shc_61 hs) rfl nq_262 nq_263 nq_264 nq_5 nq_265 (by decide +kernel) rfl rfl ⟨Nat.le_of_ble_eq_true rfl, Nat.le_of_ble_eq_true rfl, Nat.le_of_ble_eq_true rfl, Nat.le_of_ble_eq_true rfl⟩ (Nat.le_of_ble_eq_true rfl) dX9_count_78 (fun r78 σ78 h => ?_)
            refine ww_aload_n C 0 rfl dX9_count_81 ?_
            refine ww_vi (n := 0) (As := []) (rest := [.int r78]) C (c_X9_readHeld hs h) (shc_61 hs) rfl nq_266 nq_267 nq_268 nq_5 nq_269 (by decide +kernel) rfl rfl ⟨Nat.le_of_ble_eq_true rfl, Nat.le_of_ble_eq_true rfl, Nat.le_of_ble_eq_true rfl, Nat.le_of_ble_eq_true rfl⟩ (Nat.le_of_ble_eq_true rfl) dX9_count_82 (fun r82 σ82 h => ?_)
            refine ww_ior C dX9_count_85 ?_
            exact ww_iret C hr hlk h dX9_count_86
          · skip
            by_cases hc5 : a1 = 5
            · refine ww_table (off := 81) (tgt := 87) C dX9_count_6 (by rw [hc5]; decide) (by rw [hc5]; decide) (by rw [hc5]; rfl) (by decide) ?_
              have h := h.2.2.2.2.2.1 hc5
              refine ww_aload_n C 0 rfl dX9_count_87 ?_
              refine ww_iconst (v := 0) C dX9_count_88 (by decide) ?_
              refine ww_bipush (v := 15) C dX9_count_89 (by decide) ?_
              refine ww_vi (n := 2) (As := [.int 0, .int 15]) (rest := []) C (c_X9_flaggedOn hs h) (shc_61 hs) rfl nq_699 nq_700 nq_701 nq_5 nq_702 (by decide +kernel) rfl rfl ⟨Nat.le_of_ble_eq_true rfl, Nat.le_of_ble_eq_true rfl, Nat.le_of_ble_eq_true rfl, Nat.le_of_ble_eq_true rfl⟩ (Nat.le_of_ble_eq_true rfl) dX9_count_91 (fun r91 σ91 h => ?_)
              exact ww_iret C hr hlk h dX9_count_94
            · skip
              by_cases hc6 : a1 = 6
              · refine ww_table (off := 89) (tgt := 95) C dX9_count_6 (by rw [hc6]; decide) (by rw [hc6]; decide) (by rw [hc6]; rfl) (by decide) ?_
                have h := h.2.2.2.2.2.2.1 hc6
                refine ww_aload_n C 0 rfl dX9_count_95 ?_
                refine ww_vi (n := 0) (As := []) (rest := []) C (c_X9_meetingCells hs h) (shc_61 hs) rfl nq_880 nq_881 nq_882 nq_5 nq_883 (by decide +kernel) rfl rfl ⟨Nat.le_of_ble_eq_true rfl, Nat.le_of_ble_eq_true rfl, Nat.le_of_ble_eq_true rfl, Nat.le_of_ble_eq_true rfl⟩ (Nat.le_of_ble_eq_true rfl) dX9_count_96 (fun r96 σ96 h => ?_)
                exact ww_iret C hr hlk h dX9_count_99
              · skip
                by_cases hc7 : a1 = 7
                · refine ww_table (off := 94) (tgt := 100) C dX9_count_6 (by rw [hc7]; decide) (by rw [hc7]; decide) (by rw [hc7]; rfl) (by decide) ?_
                  have h := h.2.2.2.2.2.2.2.1 hc7
                  refine ww_aload_n C 0 rfl dX9_count_100 ?_
                  refine ww_getI C (shc_61 hs) rfl inG9 10 (by decide) nq_290 rfl dX9_count_101 ?_
                  exact ww_iret C hr hlk h dX9_count_104
                · skip
                  by_cases hc8 : a1 = 8
                  · refine ww_table (off := 99) (tgt := 105) C dX9_count_6 (by rw [hc8]; decide) (by rw [hc8]; decide) (by rw [hc8]; rfl) (by decide) ?_
                    have h := h.2.2.2.2.2.2.2.2.1 hc8
                    refine ww_aload_n C 0 rfl dX9_count_105 ?_
                    refine ww_getI C (shc_61 hs) rfl inG9 32 (by decide) nq_720 rfl dX9_count_106 ?_
                    exact ww_iret C hr hlk h dX9_count_109
                  · skip
                    have nhc0 := ne_toInt (n := 0) hc0
                    have nhc1 := ne_toInt (n := 1) hc1
                    have nhc2 := ne_toInt (n := 2) hc2
                    have nhc3 := ne_toInt (n := 3) hc3
                    have nhc4 := ne_toInt (n := 4) hc4
                    have nhc5 := ne_toInt (n := 5) hc5
                    have nhc6 := ne_toInt (n := 6) hc6
                    have nhc7 := ne_toInt (n := 7) hc7
                    have nhc8 := ne_toInt (n := 8) hc8
                    refine ww_tableO (tgt := 110) C dX9_count_6 (by omega) (by decide) ?_
                    have h := h.2.2.2.2.2.2.2.2.2 ⟨hc0, hc1, hc2, hc3, hc4, hc5, hc6, hc7, hc8⟩
                    refine ww_bipush (v := -2) C dX9_count_110 (by decide) ?_
                    exact ww_iret C hr hlk h dX9_count_112
