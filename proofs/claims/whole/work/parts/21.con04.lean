set_option maxRecDepth 100000 in
set_option maxHeartbeats 4000000 in
theorem c_X8_write {l : Launch} {dC : Nat → ClassId} {dI : Nat → Nat → Nat} {cA : Nat → ClassId} {al : Nat → Nat} {sh : List Kd} (hs : ShC sh) {σ : St} {a1 : Int32} {Q : Int32 → St → Prop} (h : m_X8_write σ a1 Q) : ∀ sz, Met l yX8_write (wd yX8_write cX8_write 2 (some .int)) (RM 1) (va_Pc ([.ref 0, .int a1].map (cv al)) (WPre dC dI cA al sh σ sz)) (va_Qi Q (WPost dC dI cA al sh (AW al sh sz)) (AW al sh sz)) 0 0 (AW al sh sz) := by
  refine ww_met (Qc := fun A => va_Qi Q (WPost dC dI cA al sh A) A) (by decide +kernel) (Nat.le_of_ble_eq_true rfl) (fun p e s m args below meth c A C hr hlk => ?_)
  show WW p l e (RM 1) s m args below meth c (MQ below (va_Qi Q (WPost dC dI cA al sh A) A) args s 0 0 A) dC dI cA A 2 0 0 al sh 0 [(0, .ref 0), (1, .int a1)] [] σ
  unfold m_X8_write at h
  refine ww_iload_n C 1 rfl dX8_write_0 ?_
  refine ww_if_lt (tgt := 11) C dX8_write_1 (by decide) (fun hc => ?_) (fun hc => ?_)
  · have h := h.1 hc
    refine ww_bipush (v := -2) C dX8_write_11 (by decide) ?_
    exact ww_iret C hr hlk h dX8_write_13
  · have h := h.2 hc
    refine ww_iload_n C 1 rfl dX8_write_4 ?_
    refine ww_sipush (v := 255) C dX8_write_5 (by decide) ?_
    refine ww_icmp_le (tgt := 14) C dX8_write_8 (by decide) (fun hc => ?_) (fun hc => ?_)
    · have h := h.1 hc
      refine ww_aload_n C 0 rfl dX8_write_14 ?_
      refine ww_getR C (shc_0 hs) rfl inG8 0 (by decide) nq_16 rfl dX8_write_15 ?_
      refine ww_iload_n C 1 rfl dX8_write_18 ?_
      refine ww_vi (n := 1) (As := [.int a1]) (rest := []) C (c_X6_put hs h) (shc_1 hs) rfl nq_148 nq_149 nq_150 nq_15 nq_151 (by decide +kernel) rfl rfl ⟨Nat.le_of_ble_eq_true rfl, Nat.le_of_ble_eq_true rfl, Nat.le_of_ble_eq_true rfl, Nat.le_of_ble_eq_true rfl⟩ (Nat.le_of_ble_eq_true rfl) dX8_write_19 (fun r19 σ19 h => ?_)
      refine ww_if_eq (tgt := 35) C dX8_write_22 (by decide) (fun hc => ?_) (fun hc => ?_)
      · have h := h.1 hc
        refine ww_bipush (v := -4) C dX8_write_35 (by decide) ?_
        exact ww_iret C hr hlk h dX8_write_37
      · have h := h.2 hc
        refine ww_aload_n C 0 rfl dX8_write_25 ?_
        refine ww_getR C (shc_0 hs) rfl inG8 0 (by decide) nq_16 rfl dX8_write_26 ?_
        refine ww_getIN C (shc_1 hs) rfl inG6 0 (by decide) (List.mem_of_getElem? (i := 10) rfl) rfl dX8_write_29 ?_
        refine ww_goto (tgt := 37) C dX8_write_32 (by decide) ?_
        exact ww_iret C hr hlk h dX8_write_37
    · have h := h.2 hc
      refine ww_bipush (v := -2) C dX8_write_11 (by decide) ?_
      exact ww_iret C hr hlk h dX8_write_13
set_option maxRecDepth 100000 in
set_option maxHeartbeats 4000000 in
theorem c_X8_wipe {l : Launch} {dC : Nat → ClassId} {dI : Nat → Nat → Nat} {cA : Nat → ClassId} {al : Nat → Nat} {sh : List Kd} (hs : ShC sh) {σ : St} {Q : Int32 → St → Prop} (h : m_X8_wipe σ Q) : ∀ sz, Met l yX8_wipe (wd yX8_wipe cX8_wipe 2 (some .int)) (RM 0) (va_Pc ([.ref 0].map (cv al)) (WPre dC dI cA al sh σ sz)) (va_Qi Q (WPost dC dI cA al sh (AW al sh sz)) (AW al sh sz)) 0 0 (AW al sh sz) := by
  refine ww_met (Qc := fun A => va_Qi Q (WPost dC dI cA al sh A) A) (by decide +kernel) (Nat.le_of_ble_eq_true rfl) (fun p e s m args below meth c A C hr hlk => ?_)
  show WW p l e (RM 0) s m args below meth c (MQ below (va_Qi Q (WPost dC dI cA al sh A) A) args s 0 0 A) dC dI cA A 2 0 0 al sh 0 [(0, .ref 0)] [] σ
  unfold m_X8_wipe at h
  refine ww_aload_n C 0 rfl dX8_wipe_0 ?_
  refine ww_getR C (shc_0 hs) rfl inG8 0 (by decide) nq_16 rfl dX8_wipe_1 ?_
  refine ww_getIN C (shc_1 hs) rfl inG6 0 (by decide) (List.mem_of_getElem? (i := 10) rfl) rfl dX8_wipe_4 ?_
  refine ww_nmI h (fun y7 h => ?_)
  refine ww_istore_n (lv' := [(1, .int y7), (0, .ref 0)]) C dX8_wipe_7 rfl (by decide) rfl ?_
  refine ww_aload_n C 1 rfl dX8_wipe_8 ?_
  refine ww_getR C (shc_0 hs) rfl inG8 0 (by decide) nq_16 rfl dX8_wipe_9 ?_
  refine ww_iconst (v := 0) C dX8_wipe_12 (by decide) ?_
  refine ww_putIN C (shc_1 hs) rfl inG6 0 (by decide) (List.mem_of_getElem? (i := 10) rfl) tyX6 tyX6_ok nmX6 rfl (by decide +kernel) rfl dX8_wipe_13 h (fun σ13 h => ?_)
  refine ww_iload_n C 0 rfl dX8_wipe_16 ?_
  exact ww_iret C hr hlk h dX8_wipe_17
set_option maxRecDepth 100000 in
set_option maxHeartbeats 4000000 in
theorem c_X8_fault {l : Launch} {dC : Nat → ClassId} {dI : Nat → Nat → Nat} {cA : Nat → ClassId} {al : Nat → Nat} {sh : List Kd} (hs : ShC sh) {σ : St} {Q : Int32 → St → Prop} (h : m_X8_fault σ Q) : ∀ sz, Met l yX8_fault (wd yX8_fault cX8_fault 1 (some .int)) (RM 5) (va_Pc ([.ref 0].map (cv al)) (WPre dC dI cA al sh σ sz)) (va_Qi Q (WPost dC dI cA al sh (AW al sh sz)) (AW al sh sz)) 0 0 (AW al sh sz) := by
  refine ww_met (Qc := fun A => va_Qi Q (WPost dC dI cA al sh A) A) (by decide +kernel) (Nat.le_of_ble_eq_true rfl) (fun p e s m args below meth c A C hr hlk => ?_)
  show WW p l e (RM 5) s m args below meth c (MQ below (va_Qi Q (WPost dC dI cA al sh A) A) args s 0 0 A) dC dI cA A 1 0 0 al sh 0 [(0, .ref 0)] [] σ
  unfold m_X8_fault at h
  refine ww_aload_n C 0 rfl dX8_fault_0 ?_
  refine ww_getR C (shc_0 hs) rfl inG8 0 (by decide) nq_16 rfl dX8_fault_1 ?_
  refine ww_aload_n C 0 rfl dX8_fault_4 ?_
  refine ww_getR C (shc_0 hs) rfl inG8 2 (by decide) nq_21 rfl dX8_fault_5 ?_
  refine ww_vi (n := 1) (As := [.ref 13]) (rest := []) C (c_X6_tell hs (shr_13 hs) h) (shc_1 hs) rfl nq_174 nq_175 nq_176 nq_15 nq_177 (by decide +kernel) rfl rfl ⟨Nat.le_of_ble_eq_true rfl, Nat.le_of_ble_eq_true rfl, Nat.le_of_ble_eq_true rfl, Nat.le_of_ble_eq_true rfl⟩ (Nat.le_of_ble_eq_true rfl) dX8_fault_8 (fun r8 σ8 h => ?_)
  exact ww_iret C hr hlk h dX8_fault_11
set_option maxRecDepth 100000 in
set_option maxHeartbeats 4000000 in
theorem w_X8_trace_L40b {p : Program} {l : Launch} {e : Env} {s : State} {m : MethodId} {args : Array Value} {below : List Frame} {meth : Method} {c : Code} {dC : Nat → ClassId} {dI : Nat → Nat → Nat} {cA : Nat → ClassId} {A : Nat → Prop} {al : Nat → Nat} {sh : List Kd} (C : Fx p s m args c cX8_trace 2 yX8_trace.cls dC dI cA A al) (hr : meth.sig.returnType = some .int) (hlk : meth.locks = false) (hs : ShC sh) {Q : Int32 → St → Prop} {K58 : St → Prop} (hK58 : ∀ (σ : St), K58 σ → WW p l e (RM 5) s m args below meth c (MQ below (va_Qi Q (WPost dC dI cA al sh A) A) args s 0 0 A) dC dI cA A 2 0 0 al sh 58 [(0, .ref 0)] [] σ) {Rc : St → Int32 → Prop} (hRc : ∀ (σ : St) (x1 : Int32), Rc σ x1 → WW p l e (RM 5) s m args below meth c (MQ below (va_Qi Q (WPost dC dI cA al sh A) A) args s 0 0 A) dC dI cA A 2 0 0 al sh 40 [(0, .ref 0), (1, .int x1)] [] σ) {σ : St} {x1 : Int32} (h : m_X8_trace_L40b Q K58 Rc σ x1) : WW p l e (RM 5) s m args below meth c (MQ below (va_Qi Q (WPost dC dI cA al sh A) A) args s 0 0 A) dC dI cA A 2 0 0 al sh 40 [(0, .ref 0), (1, .int x1)] [] σ := by
  unfold m_X8_trace_L40b at h
  refine ww_iload_n C 1 rfl dX8_trace_40 ?_
  refine ww_iconst (v := 2) C dX8_trace_41 (by decide) ?_
  refine ww_icmp_ge (tgt := 58) C dX8_trace_42 (by decide) (fun hc => ?_) (fun hc => ?_)
  · have h := h.1 hc
    refine ww_sub [0] rfl ?_
    exact hK58 _ h
  · have h := h.2 hc
    refine ww_aload_n C 0 rfl dX8_trace_45 ?_
    refine ww_getR C (shc_0 hs) rfl inG8 4 (by decide) nq_24 rfl dX8_trace_46 ?_
    refine ww_iload_n C 1 rfl dX8_trace_49 ?_
    refine ww_iconst (v := 0) C dX8_trace_50 (by decide) ?_
    refine ww_zast C (shc_44 hs) h.1 dX8_trace_51 h.2 (fun σ51 h => ?_)
    refine ww_iinc (v := (x1 + 1)) (lv' := [(1, .int (x1 + 1)), (0, .ref 0)]) C 1 rfl dX8_trace_52 rfl (by decide) rfl ?_
    refine ww_goto (tgt := 40) C dX8_trace_55 (by decide) ?_
    refine ww_sub [1, 0] rfl ?_
    exact hRc _ _ h
set_option maxRecDepth 100000 in
set_option maxHeartbeats 4000000 in
theorem w_X8_trace_L40 {p : Program} {l : Launch} {e : Env} {s : State} {m : MethodId} {args : Array Value} {below : List Frame} {meth : Method} {c : Code} {dC : Nat → ClassId} {dI : Nat → Nat → Nat} {cA : Nat → ClassId} {A : Nat → Prop} {al : Nat → Nat} {sh : List Kd} (C : Fx p s m args c cX8_trace 2 yX8_trace.cls dC dI cA A al) (hr : meth.sig.returnType = some .int) (hlk : meth.locks = false) (hs : ShC sh) {Q : Int32 → St → Prop} {K58 : St → Prop} (hK58 : ∀ (σ : St), K58 σ → WW p l e (RM 5) s m args below meth c (MQ below (va_Qi Q (WPost dC dI cA al sh A) A) args s 0 0 A) dC dI cA A 2 0 0 al sh 58 [(0, .ref 0)] [] σ) : ∀ (f : Nat) (σ : St) (x1 : Int32), m_X8_trace_L40 Q K58 f σ x1 → WW p l e (RM 5) s m args below meth c (MQ below (va_Qi Q (WPost dC dI cA al sh A) A) args s 0 0 A) dC dI cA A 2 0 0 al sh 40 [(0, .ref 0), (1, .int x1)] [] σ := by
  intro f
  induction f with
  | zero => intro σ x1 h; exact False.elim h
  | succ f ih => intro σ x1 h; exact w_X8_trace_L40b (Q := Q) C hr hlk hs hK58 ih h
set_option maxRecDepth 100000 in
set_option maxHeartbeats 4000000 in
theorem w_X8_trace_J58 {p : Program} {l : Launch} {e : Env} {s : State} {m : MethodId} {args : Array Value} {below : List Frame} {meth : Method} {c : Code} {dC : Nat → ClassId} {dI : Nat → Nat → Nat} {cA : Nat → ClassId} {A : Nat → Prop} {al : Nat → Nat} {sh : List Kd} (C : Fx p s m args c cX8_trace 2 yX8_trace.cls dC dI cA A al) (hr : meth.sig.returnType = some .int) (hlk : meth.locks = false) (hs : ShC sh) {Q : Int32 → St → Prop} {σ : St} (h : m_X8_trace_J58 Q σ) : WW p l e (RM 5) s m args below meth c (MQ below (va_Qi Q (WPost dC dI cA al sh A) A) args s 0 0 A) dC dI cA A 2 0 0 al sh 58 [(0, .ref 0)] [] σ := by
  unfold m_X8_trace_J58 at h
  refine ww_aload_n C 0 rfl dX8_trace_58 ?_
  refine ww_getR C (shc_0 hs) rfl inG8 1 (by decide) nq_20 rfl dX8_trace_59 ?_
  refine ww_getIN C (row_o (shr_3 hs)) rfl inG4 0 (by decide) (List.mem_of_getElem? (i := 12) rfl) rfl dX8_trace_62 ?_
  exact ww_iret C hr hlk h dX8_trace_65
set_option maxRecDepth 100000 in
set_option maxHeartbeats 4000000 in
theorem c_X8_trace {l : Launch} {dC : Nat → ClassId} {dI : Nat → Nat → Nat} {cA : Nat → ClassId} {al : Nat → Nat} {sh : List Kd} (hs : ShC sh) {σ : St} {Q : Int32 → St → Prop} (h : m_X8_trace σ Q) : ∀ sz, Met l yX8_trace (wd yX8_trace cX8_trace 2 (some .int)) (RM 5) (va_Pc ([.ref 0].map (cv al)) (WPre dC dI cA al sh σ sz)) (va_Qi Q (WPost dC dI cA al sh (AW al sh sz)) (AW al sh sz)) 0 0 (AW al sh sz) := by
  refine ww_met (Qc := fun A => va_Qi Q (WPost dC dI cA al sh A) A) (by decide +kernel) (Nat.le_of_ble_eq_true rfl) (fun p e s m args below meth c A C hr hlk => ?_)
  show WW p l e (RM 5) s m args below meth c (MQ below (va_Qi Q (WPost dC dI cA al sh A) A) args s 0 0 A) dC dI cA A 2 0 0 al sh 0 [(0, .ref 0)] [] σ
  unfold m_X8_trace at h
  refine ww_aload_n C 0 rfl dX8_trace_0 ?_
  refine ww_getR C (shc_0 hs) rfl inG8 0 (by decide) nq_16 rfl dX8_trace_1 ?_
  refine ww_aload_n C 0 rfl dX8_trace_4 ?_
  refine ww_getR C (shc_0 hs) rfl inG8 2 (by decide) nq_21 rfl dX8_trace_5 ?_
  refine ww_vi (n := 1) (As := [.ref 13]) (rest := []) C (c_X6_tell hs (shr_13 hs) h) (shc_1 hs) rfl nq_174 nq_175 nq_176 nq_15 nq_177 (by decide +kernel) rfl rfl ⟨Nat.le_of_ble_eq_true rfl, Nat.le_of_ble_eq_true rfl, Nat.le_of_ble_eq_true rfl, Nat.le_of_ble_eq_true rfl⟩ (Nat.le_of_ble_eq_true rfl) dX8_trace_8 (fun r8 σ8 h => ?_)
  refine ww_bipush (v := -9) C dX8_trace_11 (by decide) ?_
  refine ww_icmp_eq (tgt := 19) C dX8_trace_13 (by decide) (fun hc => ?_) (fun hc => ?_)
  · have h := h.1 hc
    refine ww_aload_n C 0 rfl dX8_trace_19 ?_
    refine ww_getR C (shc_0 hs) rfl inG8 1 (by decide) nq_20 rfl dX8_trace_20 ?_
    refine ww_aload_n C 0 rfl dX8_trace_23 ?_
    refine ww_getR C (shc_0 hs) rfl inG8 2 (by decide) nq_21 rfl dX8_trace_24 ?_
    refine ww_vv (n := 1) (As := [.ref 13]) (rest := []) C (c_X4_copy (shr_3 hs) (shr_13 hs) h) (row_o (shr_3 hs)) rfl nq_281 nq_282 nq_283 nq_19 nq_284 (by decide +kernel) rfl rfl ⟨Nat.le_of_ble_eq_true rfl, Nat.le_of_ble_eq_true rfl, Nat.le_of_ble_eq_true rfl, Nat.le_of_ble_eq_true rfl⟩ (Nat.le_of_ble_eq_true rfl) dX8_trace_27 (fun σ27 h => ?_)
    refine ww_aload_n C 0 rfl dX8_trace_30 ?_
    refine ww_getR C (shc_0 hs) rfl inG8 5 (by decide) nq_28 rfl dX8_trace_31 ?_
    refine ww_iconst (v := 0) C dX8_trace_34 (by decide) ?_
    refine ww_putIN C (shc_45 hs) rfl inG0 0 (by decide) (List.mem_of_getElem? (i := 11) rfl) tyX0 tyX0_ok nmX0 rfl (by decide +kernel) rfl dX8_trace_35 h (fun σ35 h => ?_)
    refine ww_iconst (v := 0) C dX8_trace_38 (by decide) ?_
    refine ww_istore_n (lv' := [(1, .int 0), (0, .ref 0)]) C dX8_trace_39 rfl (by decide) rfl ?_
    refine ww_sub [1, 0] rfl ?_
    obtain ⟨f, h⟩ := h
    exact w_X8_trace_L40 (Q := Q) C hr hlk hs (fun σ h => by exact w_X8_trace_J58 (Q := Q) C hr hlk hs h) f _ _ h
  · have h := h.2 hc
    refine ww_bipush (v := -3) C dX8_trace_16 (by decide) ?_
    exact ww_iret C hr hlk h dX8_trace_18
set_option maxRecDepth 100000 in
set_option maxHeartbeats 4000000 in
theorem c_X8_step {l : Launch} {dC : Nat → ClassId} {dI : Nat → Nat → Nat} {cA : Nat → ClassId} {al : Nat → Nat} {sh : List Kd} (hs : ShC sh) {σ : St} {a1 : Int32} {a2 : Int32} {Q : Int32 → St → Prop} (h : m_X8_step σ a1 a2 Q) : ∀ sz, Met l yX8_step (wd yX8_step cX8_step 3 (some .int)) (RM 1) (va_Pc ([.ref 0, .int a1, .int a2].map (cv al)) (WPre dC dI cA al sh σ sz)) (va_Qi Q (WPost dC dI cA al sh (AW al sh sz)) (AW al sh sz)) 0 0 (AW al sh sz) := by
  refine ww_met (Qc := fun A => va_Qi Q (WPost dC dI cA al sh A) A) (by decide +kernel) (Nat.le_of_ble_eq_true rfl) (fun p e s m args below meth c A C hr hlk => ?_)
  show WW p l e (RM 1) s m args below meth c (MQ below (va_Qi Q (WPost dC dI cA al sh A) A) args s 0 0 A) dC dI cA A 3 0 0 al sh 0 [(0, .ref 0), (1, .int a1), (2, .int a2)] [] σ
  unfold m_X8_step at h
  refine ww_aload_n C 0 rfl dX8_step_0 ?_
  refine ww_getR C (shc_0 hs) rfl inG8 1 (by decide) nq_20 rfl dX8_step_1 ?_
  refine ww_iload_n C 1 rfl dX8_step_4 ?_
  refine ww_vi (n := 1) (As := [.int a1]) (rest := []) C (c_X4_has (shr_3 hs) h) (row_o (shr_3 hs)) rfl nq_299 nq_300 nq_301 nq_19 nq_302 (by decide +kernel) rfl rfl ⟨Nat.le_of_ble_eq_true rfl, Nat.le_of_ble_eq_true rfl, Nat.le_of_ble_eq_true rfl, Nat.le_of_ble_eq_true rfl⟩ (Nat.le_of_ble_eq_true rfl) dX8_step_5 (fun r5 σ5 h => ?_)
  refine ww_if_ne (tgt := 13) C dX8_step_8 (by decide) (fun hc => ?_) (fun hc => ?_)
  · have h := h.1 hc
    refine ww_iload_n C 2 rfl dX8_step_13 ?_
    by_cases hc0 : a2 = 0
    · refine ww_table (off := 34) (tgt := 48) C dX8_step_14 (by rw [hc0]; decide) (by rw [hc0]; decide) (by rw [hc0]; rfl) (by decide) ?_
      have h := h.1 hc0
      refine ww_aload_n C 0 rfl dX8_step_48 ?_
      refine ww_getR C (shc_0 hs) rfl inG8 1 (by decide) nq_20 rfl dX8_step_49 ?_
      refine ww_iload_n C 1 rfl dX8_step_52 ?_
      refine ww_vi (n := 1) (As := [.int a1]) (rest := []) C (c_X4_threadAt (shr_3 hs) h) (row_o (shr_3 hs)) rfl nq_303 nq_304 nq_305 nq_19 nq_306 (by decide +kernel) rfl rfl ⟨Nat.le_of_ble_eq_true rfl, Nat.le_of_ble_eq_true rfl, Nat.le_of_ble_eq_true rfl, Nat.le_of_ble_eq_true rfl⟩ (Nat.le_of_ble_eq_true rfl) dX8_step_53 (fun r53 σ53 h => ?_)
      exact ww_iret C hr hlk h dX8_step_56
    · skip
      by_cases hc1 : a2 = 1
      · refine ww_table (off := 43) (tgt := 57) C dX8_step_14 (by rw [hc1]; decide) (by rw [hc1]; decide) (by rw [hc1]; rfl) (by decide) ?_
        have h := h.2.1 hc1
        refine ww_aload_n C 0 rfl dX8_step_57 ?_
        refine ww_getR C (shc_0 hs) rfl inG8 1 (by decide) nq_20 rfl dX8_step_58 ?_
        refine ww_iload_n C 1 rfl dX8_step_61 ?_
        refine ww_vi (n := 1) (As := [.int a1]) (rest := []) C (c_X4_signAt (shr_3 hs) h) (row_o (shr_3 hs)) rfl nq_307 nq_308 nq_309 nq_19 nq_310 (by decide +kernel) rfl rfl ⟨Nat.le_of_ble_eq_true rfl, Nat.le_of_ble_eq_true rfl, Nat.le_of_ble_eq_true rfl, Nat.le_of_ble_eq_true rfl⟩ (Nat.le_of_ble_eq_true rfl) dX8_step_62 (fun r62 σ62 h => ?_)
        exact ww_iret C hr hlk h dX8_step_65
      · skip
        by_cases hc2 : a2 = 2
        · refine ww_table (off := 52) (tgt := 66) C dX8_step_14 (by rw [hc2]; decide) (by rw [hc2]; decide) (by rw [hc2]; rfl) (by decide) ?_
          have h := h.2.2.1 hc2
          refine ww_aload_n C 0 rfl dX8_step_66 ?_
          refine ww_getR C (shc_0 hs) rfl inG8 1 (by decide) nq_20 rfl dX8_step_67 ?_
          refine ww_iload_n C 1 rfl dX8_step_70 ?_
          refine ww_vi (n := 1) (As := [.int a1]) (rest := []) C (c_X4_aboutAt (shr_3 hs) h) (row_o (shr_3 hs)) rfl nq_311 nq_312 nq_313 nq_19 nq_314 (by decide +kernel) rfl rfl ⟨Nat.le_of_ble_eq_true rfl, Nat.le_of_ble_eq_true rfl, Nat.le_of_ble_eq_true rfl, Nat.le_of_ble_eq_true rfl⟩ (Nat.le_of_ble_eq_true rfl) dX8_step_71 (fun r71 σ71 h => ?_)
          exact ww_iret C hr hlk h dX8_step_74
        · skip
          by_cases hc3 : a2 = 3
          · refine ww_table (off := 61) (tgt := 75) C dX8_step_14 (by rw [hc3]; decide) (by rw [hc3]; decide) (by rw [hc3]; rfl) (by decide) ?_
            have h := h.2.2.2.1 hc3
            refine ww_aload_n C 0 rfl dX8_step_75 ?_
            refine ww_getR C (shc_0 hs) rfl inG8 1 (by decide) nq_20 rfl dX8_step_76 ?_
            refine ww_getRN C (row_o (shr_3 hs)) rfl inG4 2 (by decide) (List.mem_of_getElem? (i := 13) rfl) rfl dX8_step_79 ?_
            refine ww_iload_n C 1 rfl dX8_step_82 ?_
            refine ww_iald C (row_2 (shr_3 hs)) h.1 dX8_step_83 ?_
            have h := h.2
            exact ww_iret C hr hlk h dX8_step_84
          · skip
            by_cases hc4 : a2 = 4
            · refine ww_table (off := 71) (tgt := 85) C dX8_step_14 (by rw [hc4]; decide) (by rw [hc4]; decide) (by rw [hc4]; rfl) (by decide) ?_
              have h := h.2.2.2.2.1 hc4
              refine ww_aload_n C 0 rfl dX8_step_85 ?_
              refine ww_getR C (shc_0 hs) rfl inG8 1 (by decide) nq_20 rfl dX8_step_86 ?_
              refine ww_getRN C (row_o (shr_3 hs)) rfl inG4 3 (by decide) (List.mem_of_getElem? (i := 0) rfl) rfl dX8_step_89 ?_
              refine ww_iload_n C 1 rfl dX8_step_92 ?_
              refine ww_iald C (row_3 (shr_3 hs)) h.1 dX8_step_93 ?_
              have h := h.2
              exact ww_iret C hr hlk h dX8_step_94
            · skip
              have nhc0 := ne_toInt (n := 0) hc0
              have nhc1 := ne_toInt (n := 1) hc1
              have nhc2 := ne_toInt (n := 2) hc2
              have nhc3 := ne_toInt (n := 3) hc3
              have nhc4 := ne_toInt (n := 4) hc4
              refine ww_tableO (tgt := 95) C dX8_step_14 (by omega) (by decide) ?_
              have h := h.2.2.2.2.2 ⟨hc0, hc1, hc2, hc3, hc4⟩
              refine ww_bipush (v := -2) C dX8_step_95 (by decide) ?_
              exact ww_iret C hr hlk h dX8_step_97
  · have h := h.2 hc
    refine ww_iconst (v := -1) C dX8_step_11 (by decide) ?_
    exact ww_iret C hr hlk h dX8_step_12
set_option maxRecDepth 100000 in
set_option maxHeartbeats 4000000 in
theorem c_X8_drop {l : Launch} {dC : Nat → ClassId} {dI : Nat → Nat → Nat} {cA : Nat → ClassId} {al : Nat → Nat} {sh : List Kd} (hs : ShC sh) {σ : St} {a1 : Int32} {Q : Int32 → St → Prop} (h : m_X8_drop σ a1 Q) : ∀ sz, Met l yX8_drop (wd yX8_drop cX8_drop 3 (some .int)) (RM 5) (va_Pc ([.ref 0, .int a1].map (cv al)) (WPre dC dI cA al sh σ sz)) (va_Qi Q (WPost dC dI cA al sh (AW al sh sz)) (AW al sh sz)) 0 0 (AW al sh sz) := by
  refine ww_met (Qc := fun A => va_Qi Q (WPost dC dI cA al sh A) A) (by decide +kernel) (Nat.le_of_ble_eq_true rfl) (fun p e s m args below meth c A C hr hlk => ?_)
  show WW p l e (RM 5) s m args below meth c (MQ below (va_Qi Q (WPost dC dI cA al sh A) A) args s 0 0 A) dC dI cA A 3 0 0 al sh 0 [(0, .ref 0), (1, .int a1)] [] σ
  unfold m_X8_drop at h
  refine ww_aload_n C 0 rfl dX8_drop_0 ?_
  refine ww_getR C (shc_0 hs) rfl inG8 1 (by decide) nq_20 rfl dX8_drop_1 ?_
  refine ww_iload_n C 1 rfl dX8_drop_4 ?_
  refine ww_vi (n := 1) (As := [.int a1]) (rest := []) C (c_X4_has (shr_3 hs) h) (row_o (shr_3 hs)) rfl nq_299 nq_300 nq_301 nq_19 nq_302 (by decide +kernel) rfl rfl ⟨Nat.le_of_ble_eq_true rfl, Nat.le_of_ble_eq_true rfl, Nat.le_of_ble_eq_true rfl, Nat.le_of_ble_eq_true rfl⟩ (Nat.le_of_ble_eq_true rfl) dX8_drop_5 (fun r5 σ5 h => ?_)
  refine ww_if_ne (tgt := 13) C dX8_drop_8 (by decide) (fun hc => ?_) (fun hc => ?_)
  · have h := h.1 hc
    refine ww_aload_n C 0 rfl dX8_drop_13 ?_
    refine ww_getR C (shc_0 hs) rfl inG8 1 (by decide) nq_20 rfl dX8_drop_14 ?_
    refine ww_getRN C (row_o (shr_3 hs)) rfl inG4 1 (by decide) (List.mem_of_getElem? (i := 1) rfl) rfl dX8_drop_17 ?_
    refine ww_iload_n C 1 rfl dX8_drop_20 ?_
    refine ww_iald C (row_1 (shr_3 hs)) h.1 dX8_drop_21 ?_
    have h := h.2
    refine ww_nmI h (fun y22 h => ?_)
    refine ww_istore_n (lv' := [(2, .int y22), (0, .ref 0), (1, .int a1)]) C dX8_drop_22 rfl (by decide) rfl ?_
    refine ww_aload_n C 1 rfl dX8_drop_23 ?_
    refine ww_getR C (shc_0 hs) rfl inG8 1 (by decide) nq_20 rfl dX8_drop_24 ?_
    refine ww_iload_n C 2 rfl dX8_drop_27 ?_
    refine ww_vi (n := 1) (As := [.int a1]) (rest := []) C (c_X4_takeOut (shr_3 hs) h) (row_o (shr_3 hs)) rfl nq_346 nq_347 nq_348 nq_19 nq_349 (by decide +kernel) rfl rfl ⟨Nat.le_of_ble_eq_true rfl, Nat.le_of_ble_eq_true rfl, Nat.le_of_ble_eq_true rfl, Nat.le_of_ble_eq_true rfl⟩ (Nat.le_of_ble_eq_true rfl) dX8_drop_28 (fun r28 σ28 h => ?_)
    refine ww_if_ne (tgt := 37) C dX8_drop_31 (by decide) (fun hc => ?_) (fun hc => ?_)
    · have h := h.1 hc
      refine ww_aload_n C 1 rfl dX8_drop_37 ?_
      refine ww_getR C (shc_0 hs) rfl inG8 5 (by decide) nq_28 rfl dX8_drop_38 ?_
      refine ww_iload_n C 2 rfl dX8_drop_41 ?_
      refine ww_iload_n C 0 rfl dX8_drop_42 ?_
      refine ww_vv (n := 2) (As := [.int a1, .int y22]) (rest := []) C (c_X0_push hs h) (shc_45 hs) rfl nq_359 nq_360 nq_361 nq_27 nq_362 (by decide +kernel) rfl rfl ⟨Nat.le_of_ble_eq_true rfl, Nat.le_of_ble_eq_true rfl, Nat.le_of_ble_eq_true rfl, Nat.le_of_ble_eq_true rfl⟩ (Nat.le_of_ble_eq_true rfl) dX8_drop_43 (fun σ43 h => ?_)
      refine ww_aload_n C 1 rfl dX8_drop_46 ?_
      refine ww_getR C (shc_0 hs) rfl inG8 1 (by decide) nq_20 rfl dX8_drop_47 ?_
      refine ww_getIN C (row_o (shr_3 hs)) rfl inG4 0 (by decide) (List.mem_of_getElem? (i := 12) rfl) rfl dX8_drop_50 ?_
      exact ww_iret C hr hlk h dX8_drop_53
    · have h := h.2 hc
      refine ww_bipush (v := -3) C dX8_drop_34 (by decide) ?_
      exact ww_iret C hr hlk h dX8_drop_36
  · have h := h.2 hc
    refine ww_iconst (v := -1) C dX8_drop_11 (by decide) ?_
    exact ww_iret C hr hlk h dX8_drop_12
set_option maxRecDepth 100000 in
set_option maxHeartbeats 4000000 in
theorem c_X8_swap {l : Launch} {dC : Nat → ClassId} {dI : Nat → Nat → Nat} {cA : Nat → ClassId} {al : Nat → Nat} {sh : List Kd} (hs : ShC sh) {σ : St} {a1 : Int32} {Q : Int32 → St → Prop} (h : m_X8_swap σ a1 Q) : ∀ sz, Met l yX8_swap (wd yX8_swap cX8_swap 3 (some .int)) (RM 5) (va_Pc ([.ref 0, .int a1].map (cv al)) (WPre dC dI cA al sh σ sz)) (va_Qi Q (WPost dC dI cA al sh (AW al sh sz)) (AW al sh sz)) 0 0 (AW al sh sz) := by
  refine ww_met (Qc := fun A => va_Qi Q (WPost dC dI cA al sh A) A) (by decide +kernel) (Nat.le_of_ble_eq_true rfl) (fun p e s m args below meth c A C hr hlk => ?_)
  show WW p l e (RM 5) s m args below meth c (MQ below (va_Qi Q (WPost dC dI cA al sh A) A) args s 0 0 A) dC dI cA A 3 0 0 al sh 0 [(0, .ref 0), (1, .int a1)] [] σ
  unfold m_X8_swap at h
  refine ww_aload_n C 0 rfl dX8_swap_0 ?_
  refine ww_getR C (shc_0 hs) rfl inG8 1 (by decide) nq_20 rfl dX8_swap_1 ?_
  refine ww_iload_n C 1 rfl dX8_swap_4 ?_
  refine ww_vi (n := 1) (As := [.int a1]) (rest := []) C (c_X4_hasPair (shr_3 hs) h) (row_o (shr_3 hs)) rfl nq_393 nq_394 nq_395 nq_19 nq_396 (by decide +kernel) rfl rfl ⟨Nat.le_of_ble_eq_true rfl, Nat.le_of_ble_eq_true rfl, Nat.le_of_ble_eq_true rfl, Nat.le_of_ble_eq_true rfl⟩ (Nat.le_of_ble_eq_true rfl) dX8_swap_5 (fun r5 σ5 h => ?_)
  refine ww_if_ne (tgt := 13) C dX8_swap_8 (by decide) (fun hc => ?_) (fun hc => ?_)
  · have h := h.1 hc
    refine ww_aload_n C 0 rfl dX8_swap_13 ?_
    refine ww_getR C (shc_0 hs) rfl inG8 1 (by decide) nq_20 rfl dX8_swap_14 ?_
    refine ww_iload_n C 1 rfl dX8_swap_17 ?_
    refine ww_vi (n := 1) (As := [.int a1]) (rest := []) C (c_X4_threadAt (shr_3 hs) h) (row_o (shr_3 hs)) rfl nq_303 nq_304 nq_305 nq_19 nq_306 (by decide +kernel) rfl rfl ⟨Nat.le_of_ble_eq_true rfl, Nat.le_of_ble_eq_true rfl, Nat.le_of_ble_eq_true rfl, Nat.le_of_ble_eq_true rfl⟩ (Nat.le_of_ble_eq_true rfl) dX8_swap_18 (fun r18 σ18 h => ?_)
    refine ww_istore_n (lv' := [(2, .int r18), (0, .ref 0), (1, .int a1)]) C dX8_swap_21 rfl (by decide) rfl ?_
    refine ww_aload_n C 1 rfl dX8_swap_22 ?_
    refine ww_getR C (shc_0 hs) rfl inG8 1 (by decide) nq_20 rfl dX8_swap_23 ?_
    refine ww_iload_n C 2 rfl dX8_swap_26 ?_
    refine ww_vi (n := 1) (As := [.int a1]) (rest := []) C (c_X4_changePlaces (shr_3 hs) h) (row_o (shr_3 hs)) rfl nq_397 nq_398 nq_399 nq_19 nq_400 (by decide +kernel) rfl rfl ⟨Nat.le_of_ble_eq_true rfl, Nat.le_of_ble_eq_true rfl, Nat.le_of_ble_eq_true rfl, Nat.le_of_ble_eq_true rfl⟩ (Nat.le_of_ble_eq_true rfl) dX8_swap_27 (fun r27 σ27 h => ?_)
    refine ww_if_ne (tgt := 36) C dX8_swap_30 (by decide) (fun hc => ?_) (fun hc => ?_)
    · have h := h.1 hc
      refine ww_aload_n C 1 rfl dX8_swap_36 ?_
      refine ww_getR C (shc_0 hs) rfl inG8 5 (by decide) nq_28 rfl dX8_swap_37 ?_
      refine ww_iload_n C 2 rfl dX8_swap_40 ?_
      refine ww_iconst (v := -1) C dX8_swap_41 (by decide) ?_
      refine ww_vv (n := 2) (As := [.int a1, .int (-1)]) (rest := []) C (c_X0_push hs h) (shc_45 hs) rfl nq_359 nq_360 nq_361 nq_27 nq_362 (by decide +kernel) rfl rfl ⟨Nat.le_of_ble_eq_true rfl, Nat.le_of_ble_eq_true rfl, Nat.le_of_ble_eq_true rfl, Nat.le_of_ble_eq_true rfl⟩ (Nat.le_of_ble_eq_true rfl) dX8_swap_42 (fun σ42 h => ?_)
      refine ww_iload_n C 0 rfl dX8_swap_45 ?_
      exact ww_iret C hr hlk h dX8_swap_46
    · have h := h.2 hc
      refine ww_bipush (v := -3) C dX8_swap_33 (by decide) ?_
      exact ww_iret C hr hlk h dX8_swap_35
  · have h := h.2 hc
    refine ww_iconst (v := -1) C dX8_swap_11 (by decide) ?_
    exact ww_iret C hr hlk h dX8_swap_12
set_option maxRecDepth 100000 in
set_option maxHeartbeats 4000000 in
theorem c_X8_undo {l : Launch} {dC : Nat → ClassId} {dI : Nat → Nat → Nat} {cA : Nat → ClassId} {al : Nat → Nat} {sh : List Kd} (hs : ShC sh) {σ : St} {Q : Int32 → St → Prop} (h : m_X8_undo σ Q) : ∀ sz, Met l yX8_undo (wd yX8_undo cX8_undo 1 (some .int)) (RM 6) (va_Pc ([.ref 0].map (cv al)) (WPre dC dI cA al sh σ sz)) (va_Qi Q (WPost dC dI cA al sh (AW al sh sz)) (AW al sh sz)) 0 0 (AW al sh sz) := by
  refine ww_met (Qc := fun A => va_Qi Q (WPost dC dI cA al sh A) A) (by decide +kernel) (Nat.le_of_ble_eq_true rfl) (fun p e s m args below meth c A C hr hlk => ?_)
  show WW p l e (RM 6) s m args below meth c (MQ below (va_Qi Q (WPost dC dI cA al sh A) A) args s 0 0 A) dC dI cA A 1 0 0 al sh 0 [(0, .ref 0)] [] σ
  unfold m_X8_undo at h
  refine ww_aload_n C 0 rfl dX8_undo_0 ?_
  refine ww_getR C (shc_0 hs) rfl inG8 5 (by decide) nq_28 rfl dX8_undo_1 ?_
  refine ww_getIN C (shc_45 hs) rfl inG0 0 (by decide) (List.mem_of_getElem? (i := 11) rfl) rfl dX8_undo_4 ?_
  refine ww_if_ne (tgt := 13) C dX8_undo_7 (by decide) (fun hc => ?_) (fun hc => ?_)
  · have h := h.1 hc
    refine ww_aload_n C 0 rfl dX8_undo_13 ?_
    refine ww_getR C (shc_0 hs) rfl inG8 5 (by decide) nq_28 rfl dX8_undo_14 ?_
    refine ww_aload_n C 0 rfl dX8_undo_17 ?_
    refine ww_getR C (shc_0 hs) rfl inG8 1 (by decide) nq_20 rfl dX8_undo_18 ?_
    refine ww_vv (n := 1) (As := [.ref 3]) (rest := []) C (c_X0_takeBack hs (shr_3 hs) h) (shc_45 hs) rfl nq_418 nq_419 nq_420 nq_27 nq_421 (by decide +kernel) rfl rfl ⟨Nat.le_of_ble_eq_true rfl, Nat.le_of_ble_eq_true rfl, Nat.le_of_ble_eq_true rfl, Nat.le_of_ble_eq_true rfl⟩ (Nat.le_of_ble_eq_true rfl) dX8_undo_21 (fun σ21 h => ?_)
    refine ww_aload_n C 0 rfl dX8_undo_24 ?_
    refine ww_getR C (shc_0 hs) rfl inG8 5 (by decide) nq_28 rfl dX8_undo_25 ?_
    refine ww_getIN C (shc_45 hs) rfl inG0 0 (by decide) (List.mem_of_getElem? (i := 11) rfl) rfl dX8_undo_28 ?_
    exact ww_iret C hr hlk h dX8_undo_31
  · have h := h.2 hc
    refine ww_bipush (v := -3) C dX8_undo_10 (by decide) ?_
    exact ww_iret C hr hlk h dX8_undo_12
set_option maxRecDepth 100000 in
set_option maxHeartbeats 4000000 in
theorem c_X8_cell {l : Launch} {dC : Nat → ClassId} {dI : Nat → Nat → Nat} {cA : Nat → ClassId} {al : Nat → Nat} {sh : List Kd} (hs : ShC sh) {σ : St} {a1 : Int32} {a2 : Int32} {a3 : Int32} {Q : Int32 → St → Prop} (h : m_X8_cell σ a1 a2 a3 Q) : ∀ sz, Met l yX8_cell (wd yX8_cell cX8_cell 5 (some .int)) (RM 3) (va_Pc ([.ref 0, .int a1, .int a2, .int a3].map (cv al)) (WPre dC dI cA al sh σ sz)) (va_Qi Q (WPost dC dI cA al sh (AW al sh sz)) (AW al sh sz)) 0 0 (AW al sh sz) := by
  refine ww_met (Qc := fun A => va_Qi Q (WPost dC dI cA al sh A) A) (by decide +kernel) (Nat.le_of_ble_eq_true rfl) (fun p e s m args below meth c A C hr hlk => ?_)
  show WW p l e (RM 3) s m args below meth c (MQ below (va_Qi Q (WPost dC dI cA al sh A) A) args s 0 0 A) dC dI cA A 5 0 0 al sh 0 [(0, .ref 0), (1, .int a1), (2, .int a2), (3, .int a3)] [] σ
  unfold m_X8_cell at h
  refine ww_iload_n C 1 rfl dX8_cell_0 ?_
  refine ww_si (n := 1) (As := [.int a1]) (rest := []) C (c_X8_isOneOfFour hs h) nq_435 nq_207 nq_2 nq_208 (by decide +kernel) rfl rfl ⟨Nat.le_of_ble_eq_true rfl, Nat.le_of_ble_eq_true rfl, Nat.le_of_ble_eq_true rfl, Nat.le_of_ble_eq_true rfl⟩ (Nat.le_of_ble_eq_true rfl) dX8_cell_1 (fun r1 σ1 h => ?_)
  refine ww_if_ne (tgt := 9) C dX8_cell_4 (by decide) (fun hc => ?_) (fun hc => ?_)
  · have h := h.1 hc
    refine ww_iload_n C 2 rfl dX8_cell_9 ?_
    refine ww_if_lt (tgt := 24) C dX8_cell_10 (by decide) (fun hc => ?_) (fun hc => ?_)
    · have h := h.1 hc
      refine ww_bipush (v := -2) C dX8_cell_24 (by decide) ?_
      exact ww_iret C hr hlk h dX8_cell_26
    · have h := h.2 hc
      refine ww_iload_n C 2 rfl dX8_cell_13 ?_
      refine ww_aload_n C 0 rfl dX8_cell_14 ?_
      refine ww_getR C (shc_0 hs) rfl inG8 1 (by decide) nq_20 rfl dX8_cell_15 ?_
      refine ww_getIN C (row_o (shr_3 hs)) rfl inG4 0 (by decide) (List.mem_of_getElem? (i := 12) rfl) rfl dX8_cell_18 ?_
      refine ww_icmp_le (tgt := 27) C dX8_cell_21 (by decide) (fun hc => ?_) (fun hc => ?_)
      · have h := h.1 hc
        refine ww_aload_n C 0 rfl dX8_cell_27 ?_
        refine ww_getR C (shc_0 hs) rfl inG8 1 (by decide) nq_20 rfl dX8_cell_28 ?_
        refine ww_iload_n C 1 rfl dX8_cell_31 ?_
        refine ww_iload_n C 2 rfl dX8_cell_32 ?_
        refine ww_bipush (v := -9) C dX8_cell_33 (by decide) ?_
        refine ww_bipush (v := 15) C dX8_cell_35 (by decide) ?_
        refine ww_si (n := 5) (As := [.ref 3, .int a1, .int a2, .int (-9), .int 15]) (rest := []) C (c_X1_watch (shr_3 hs) h) nq_436 nq_437 nq_438 nq_439 (by decide +kernel) rfl rfl ⟨Nat.le_of_ble_eq_true rfl, Nat.le_of_ble_eq_true rfl, Nat.le_of_ble_eq_true rfl, Nat.le_of_ble_eq_true rfl⟩ (Nat.le_of_ble_eq_true rfl) dX8_cell_37 (fun r37 σ37 h => ?_)
        refine ww_istore (lv' := [(4, .int r37), (0, .ref 0), (1, .int a1), (2, .int a2), (3, .int a3)]) C dX8_cell_40 (by decide) rfl ?_
        refine ww_iload_n C 4 rfl dX8_cell_42 ?_
        by_cases hc0 : a3 = 0
        · refine ww_table (off := 33) (tgt := 76) C dX8_cell_43 (by rw [hc0]; decide) (by rw [hc0]; decide) (by rw [hc0]; rfl) (by decide) ?_
          have h := h.1 hc0
          refine ww_iload C 0 rfl dX8_cell_76 ?_
          refine ww_si (n := 1) (As := [.int r37]) (rest := []) C (c_X1_stateOf h) nq_459 nq_452 nq_438 nq_453 (by decide +kernel) rfl rfl ⟨Nat.le_of_ble_eq_true rfl, Nat.le_of_ble_eq_true rfl, Nat.le_of_ble_eq_true rfl, Nat.le_of_ble_eq_true rfl⟩ (Nat.le_of_ble_eq_true rfl) dX8_cell_78 (fun r78 σ78 h => ?_)
          exact ww_iret C hr hlk h dX8_cell_81
        · skip
          by_cases hc1 : a3 = 1
          · refine ww_table (off := 39) (tgt := 82) C dX8_cell_43 (by rw [hc1]; decide) (by rw [hc1]; decide) (by rw [hc1]; rfl) (by decide) ?_
            have h := h.2.1 hc1
            refine ww_iload C 0 rfl dX8_cell_82 ?_
            refine ww_si (n := 1) (As := [.int r37]) (rest := []) C (c_X1_candidatesOf h) nq_460 nq_461 nq_438 nq_462 (by decide +kernel) rfl rfl ⟨Nat.le_of_ble_eq_true rfl, Nat.le_of_ble_eq_true rfl, Nat.le_of_ble_eq_true rfl, Nat.le_of_ble_eq_true rfl⟩ (Nat.le_of_ble_eq_true rfl) dX8_cell_84 (fun r84 σ84 h => ?_)
            exact ww_iret C hr hlk h dX8_cell_87
          · skip
            by_cases hc2 : a3 = 2
            · refine ww_table (off := 45) (tgt := 88) C dX8_cell_43 (by rw [hc2]; decide) (by rw [hc2]; decide) (by rw [hc2]; rfl) (by decide) ?_
              have h := h.2.2.1 hc2
              refine ww_iload C 0 rfl dX8_cell_88 ?_
              refine ww_si (n := 1) (As := [.int r37]) (rest := []) C (c_X1_ownerOf h) nq_463 nq_464 nq_438 nq_465 (by decide +kernel) rfl rfl ⟨Nat.le_of_ble_eq_true rfl, Nat.le_of_ble_eq_true rfl, Nat.le_of_ble_eq_true rfl, Nat.le_of_ble_eq_true rfl⟩ (Nat.le_of_ble_eq_true rfl) dX8_cell_90 (fun r90 σ90 h => ?_)
              exact ww_iret C hr hlk h dX8_cell_93
            · skip
              by_cases hc3 : a3 = 3
              · refine ww_table (off := 51) (tgt := 94) C dX8_cell_43 (by rw [hc3]; decide) (by rw [hc3]; decide) (by rw [hc3]; rfl) (by decide) ?_
                have h := h.2.2.2.1 hc3
                refine ww_aload_n C 1 rfl dX8_cell_94 ?_
                refine ww_getR C (shc_0 hs) rfl inG8 1 (by decide) nq_20 rfl dX8_cell_95 ?_
                refine ww_iload_n C 2 rfl dX8_cell_98 ?_
                refine ww_iload_n C 3 rfl dX8_cell_99 ?_
                refine ww_si (n := 3) (As := [.ref 3, .int a1, .int a2]) (rest := []) C (c_X1_flaggedBy (shr_3 hs) h) nq_466 nq_467 nq_438 nq_468 (by decide +kernel) rfl rfl ⟨Nat.le_of_ble_eq_true rfl, Nat.le_of_ble_eq_true rfl, Nat.le_of_ble_eq_true rfl, Nat.le_of_ble_eq_true rfl⟩ (Nat.le_of_ble_eq_true rfl) dX8_cell_100 (fun r100 σ100 h => ?_)
                exact ww_iret C hr hlk h dX8_cell_103
              · skip
                by_cases hc4 : a3 = 4
                · refine ww_table (off := 61) (tgt := 104) C dX8_cell_43 (by rw [hc4]; decide) (by rw [hc4]; decide) (by rw [hc4]; rfl) (by decide) ?_
                  have h := h.2.2.2.2.1 hc4
                  refine ww_aload_n C 1 rfl dX8_cell_104 ?_
                  refine ww_getR C (shc_0 hs) rfl inG8 1 (by decide) nq_20 rfl dX8_cell_105 ?_
                  refine ww_iload_n C 2 rfl dX8_cell_108 ?_
                  refine ww_iload_n C 3 rfl dX8_cell_109 ?_
                  refine ww_si (n := 3) (As := [.ref 3, .int a1, .int a2]) (rest := []) C (c_X1_touches (shr_3 hs) h) nq_469 nq_470 nq_438 nq_471 (by decide +kernel) rfl rfl ⟨Nat.le_of_ble_eq_true rfl, Nat.le_of_ble_eq_true rfl, Nat.le_of_ble_eq_true rfl, Nat.le_of_ble_eq_true rfl⟩ (Nat.le_of_ble_eq_true rfl) dX8_cell_110 (fun r110 σ110 h => ?_)
                  exact ww_iret C hr hlk h dX8_cell_113
                · skip
                  have nhc0 := ne_toInt (n := 0) hc0
                  have nhc1 := ne_toInt (n := 1) hc1
                  have nhc2 := ne_toInt (n := 2) hc2
                  have nhc3 := ne_toInt (n := 3) hc3
                  have nhc4 := ne_toInt (n := 4) hc4
                  refine ww_tableO (tgt := 114) C dX8_cell_43 (by omega) (by decide) ?_
                  have h := h.2.2.2.2.2 ⟨hc0, hc1, hc2, hc3, hc4⟩
                  refine ww_bipush (v := -2) C dX8_cell_114 (by decide) ?_
                  exact ww_iret C hr hlk h dX8_cell_116
      · have h := h.2 hc
        refine ww_bipush (v := -2) C dX8_cell_24 (by decide) ?_
        exact ww_iret C hr hlk h dX8_cell_26
  · have h := h.2 hc
    refine ww_iconst (v := -1) C dX8_cell_7 (by decide) ?_
    exact ww_iret C hr hlk h dX8_cell_8
set_option maxRecDepth 100000 in
set_option maxHeartbeats 4000000 in
theorem c_X8_ahead {l : Launch} {dC : Nat → ClassId} {dI : Nat → Nat → Nat} {cA : Nat → ClassId} {al : Nat → Nat} {sh : List Kd} (hs : ShC sh) {σ : St} {a1 : Int32} {a2 : Int32} {Q : Int32 → St → Prop} (h : m_X8_ahead σ a1 a2 Q) : ∀ sz, Met l yX8_ahead (wd yX8_ahead cX8_ahead 3 (some .int)) (RM 1) (va_Pc ([.ref 0, .int a1, .int a2].map (cv al)) (WPre dC dI cA al sh σ sz)) (va_Qi Q (WPost dC dI cA al sh (AW al sh sz)) (AW al sh sz)) 0 0 (AW al sh sz) := by
  refine ww_met (Qc := fun A => va_Qi Q (WPost dC dI cA al sh A) A) (by decide +kernel) (Nat.le_of_ble_eq_true rfl) (fun p e s m args below meth c A C hr hlk => ?_)
  show WW p l e (RM 1) s m args below meth c (MQ below (va_Qi Q (WPost dC dI cA al sh A) A) args s 0 0 A) dC dI cA A 3 0 0 al sh 0 [(0, .ref 0), (1, .int a1), (2, .int a2)] [] σ
  unfold m_X8_ahead at h
  refine ww_aload_n C 0 rfl dX8_ahead_0 ?_
  refine ww_getR C (shc_0 hs) rfl inG8 1 (by decide) nq_20 rfl dX8_ahead_1 ?_
  refine ww_iload_n C 1 rfl dX8_ahead_4 ?_
  refine ww_vi (n := 1) (As := [.int a1]) (rest := []) C (c_X4_has (shr_3 hs) h) (row_o (shr_3 hs)) rfl nq_299 nq_300 nq_301 nq_19 nq_302 (by decide +kernel) rfl rfl ⟨Nat.le_of_ble_eq_true rfl, Nat.le_of_ble_eq_true rfl, Nat.le_of_ble_eq_true rfl, Nat.le_of_ble_eq_true rfl⟩ (Nat.le_of_ble_eq_true rfl) dX8_ahead_5 (fun r5 σ5 h => ?_)
  refine ww_if_eq (tgt := 22) C dX8_ahead_8 (by decide) (fun hc => ?_) (fun hc => ?_)
  · have h := h.1 hc
    refine ww_iconst (v := -1) C dX8_ahead_22 (by decide) ?_
    exact ww_iret C hr hlk h dX8_ahead_23
  · have h := h.2 hc
    refine ww_aload_n C 0 rfl dX8_ahead_11 ?_
    refine ww_getR C (shc_0 hs) rfl inG8 1 (by decide) nq_20 rfl dX8_ahead_12 ?_
    refine ww_iload_n C 2 rfl dX8_ahead_15 ?_
    refine ww_vi (n := 1) (As := [.int a2]) (rest := []) C (c_X4_has (shr_3 hs) h) (row_o (shr_3 hs)) rfl nq_299 nq_300 nq_301 nq_19 nq_302 (by decide +kernel) rfl rfl ⟨Nat.le_of_ble_eq_true rfl, Nat.le_of_ble_eq_true rfl, Nat.le_of_ble_eq_true rfl, Nat.le_of_ble_eq_true rfl⟩ (Nat.le_of_ble_eq_true rfl) dX8_ahead_16 (fun r16 σ16 h => ?_)
    refine ww_if_ne (tgt := 24) C dX8_ahead_19 (by decide) (fun hc => ?_) (fun hc => ?_)
    · have h := h.1 hc
      refine ww_aload_n C 0 rfl dX8_ahead_24 ?_
      refine ww_getR C (shc_0 hs) rfl inG8 1 (by decide) nq_20 rfl dX8_ahead_25 ?_
      refine ww_iload_n C 1 rfl dX8_ahead_28 ?_
      refine ww_iload_n C 2 rfl dX8_ahead_29 ?_
      refine ww_vi (n := 2) (As := [.int a1, .int a2]) (rest := []) C (c_X4_isAhead (shr_3 hs) h) (row_o (shr_3 hs)) rfl nq_509 nq_510 nq_511 nq_19 nq_512 (by decide +kernel) rfl rfl ⟨Nat.le_of_ble_eq_true rfl, Nat.le_of_ble_eq_true rfl, Nat.le_of_ble_eq_true rfl, Nat.le_of_ble_eq_true rfl⟩ (Nat.le_of_ble_eq_true rfl) dX8_ahead_30 (fun r30 σ30 h => ?_)
      refine ww_if_eq (tgt := 40) C dX8_ahead_33 (by decide) (fun hc => ?_) (fun hc => ?_)
      · have h := h.1 hc
        refine ww_iconst (v := 0) C dX8_ahead_40 (by decide) ?_
        exact ww_iret C hr hlk h dX8_ahead_41
      · have h := h.2 hc
        refine ww_iconst (v := 1) C dX8_ahead_36 (by decide) ?_
        refine ww_goto (tgt := 41) C dX8_ahead_37 (by decide) ?_
        exact ww_iret C hr hlk h dX8_ahead_41
    · have h := h.2 hc
      refine ww_iconst (v := -1) C dX8_ahead_22 (by decide) ?_
      exact ww_iret C hr hlk h dX8_ahead_23
set_option maxRecDepth 100000 in
set_option maxHeartbeats 4000000 in
theorem c_X8_meetings {l : Launch} {dC : Nat → ClassId} {dI : Nat → Nat → Nat} {cA : Nat → ClassId} {al : Nat → Nat} {sh : List Kd} (hs : ShC sh) {σ : St} {a1 : Int32} {a2 : Int32} {Q : Int32 → St → Prop} (h : m_X8_meetings σ a1 a2 Q) : ∀ sz, Met l yX8_meetings (wd yX8_meetings cX8_meetings 3 (some .int)) (RM 4) (va_Pc ([.ref 0, .int a1, .int a2].map (cv al)) (WPre dC dI cA al sh σ sz)) (va_Qi Q (WPost dC dI cA al sh (AW al sh sz)) (AW al sh sz)) 0 0 (AW al sh sz) := by
  refine ww_met (Qc := fun A => va_Qi Q (WPost dC dI cA al sh A) A) (by decide +kernel) (Nat.le_of_ble_eq_true rfl) (fun p e s m args below meth c A C hr hlk => ?_)
  show WW p l e (RM 4) s m args below meth c (MQ below (va_Qi Q (WPost dC dI cA al sh A) A) args s 0 0 A) dC dI cA A 3 0 0 al sh 0 [(0, .ref 0), (1, .int a1), (2, .int a2)] [] σ
  unfold m_X8_meetings at h
  refine ww_iload_n C 1 rfl dX8_meetings_0 ?_
  refine ww_si (n := 1) (As := [.int a1]) (rest := []) C (c_X8_isOneOfFour hs h) nq_435 nq_207 nq_2 nq_208 (by decide +kernel) rfl rfl ⟨Nat.le_of_ble_eq_true rfl, Nat.le_of_ble_eq_true rfl, Nat.le_of_ble_eq_true rfl, Nat.le_of_ble_eq_true rfl⟩ (Nat.le_of_ble_eq_true rfl) dX8_meetings_1 (fun r1 σ1 h => ?_)
  refine ww_if_ne (tgt := 9) C dX8_meetings_4 (by decide) (fun hc => ?_) (fun hc => ?_)
  · have h := h.1 hc
    refine ww_iload_n C 2 rfl dX8_meetings_9 ?_
    by_cases hc0 : a2 = 0
    · refine ww_lookup (off := 26) (tgt := 36) C dX8_meetings_10 (by decide) (by rw [hc0]; rfl) (by decide) ?_
      have h := h.1 hc0
      refine ww_aload_n C 0 rfl dX8_meetings_36 ?_
      refine ww_getR C (shc_0 hs) rfl inG8 1 (by decide) nq_20 rfl dX8_meetings_37 ?_
      refine ww_iload_n C 1 rfl dX8_meetings_40 ?_
      refine ww_si (n := 2) (As := [.ref 3, .int a1]) (rest := []) C (c_X1_meetingCount (shr_3 hs) h) nq_529 nq_530 nq_438 nq_531 (by decide +kernel) rfl rfl ⟨Nat.le_of_ble_eq_true rfl, Nat.le_of_ble_eq_true rfl, Nat.le_of_ble_eq_true rfl, Nat.le_of_ble_eq_true rfl⟩ (Nat.le_of_ble_eq_true rfl) dX8_meetings_41 (fun r41 σ41 h => ?_)
      exact ww_iret C hr hlk h dX8_meetings_44
    · skip
      by_cases hc1 : a2 = 1
      · refine ww_lookup (off := 35) (tgt := 45) C dX8_meetings_10 (by decide) (by rw [hc1]; rfl) (by decide) ?_
        have h := h.2.1 hc1
        refine ww_aload_n C 0 rfl dX8_meetings_45 ?_
        refine ww_getR C (shc_0 hs) rfl inG8 1 (by decide) nq_20 rfl dX8_meetings_46 ?_
        refine ww_iload_n C 1 rfl dX8_meetings_49 ?_
        refine ww_si (n := 2) (As := [.ref 3, .int a1]) (rest := []) C (c_X1_leastMeeting (shr_3 hs) h) nq_536 nq_537 nq_438 nq_538 (by decide +kernel) rfl rfl ⟨Nat.le_of_ble_eq_true rfl, Nat.le_of_ble_eq_true rfl, Nat.le_of_ble_eq_true rfl, Nat.le_of_ble_eq_true rfl⟩ (Nat.le_of_ble_eq_true rfl) dX8_meetings_50 (fun r50 σ50 h => ?_)
        exact ww_iret C hr hlk h dX8_meetings_53
      · skip
        refine ww_lookup (off := 44) (tgt := 54) C dX8_meetings_10 (by decide) (lk_none (List.forall_mem_cons.mpr ⟨ne_toInt (n := 0) hc0, (List.forall_mem_cons.mpr ⟨ne_toInt (n := 1) hc1, (fun _ h => absurd h List.not_mem_nil)⟩)⟩)) (by decide) ?_
        have h := h.2.2 ⟨hc0, hc1⟩
        refine ww_bipush (v := -2) C dX8_meetings_54 (by decide) ?_
        exact ww_iret C hr hlk h dX8_meetings_56
  · have h := h.2 hc
    refine ww_iconst (v := -1) C dX8_meetings_7 (by decide) ?_
    exact ww_iret C hr hlk h dX8_meetings_8
set_option maxRecDepth 100000 in
set_option maxHeartbeats 4000000 in
theorem c_X8_edges {l : Launch} {dC : Nat → ClassId} {dI : Nat → Nat → Nat} {cA : Nat → ClassId} {al : Nat → Nat} {sh : List Kd} (hs : ShC sh) {σ : St} {a1 : Int32} {Q : Int32 → St → Prop} (h : m_X8_edges σ a1 Q) : ∀ sz, Met l yX8_edges (wd yX8_edges cX8_edges 2 (some .int)) (RM 2) (va_Pc ([.ref 0, .int a1].map (cv al)) (WPre dC dI cA al sh σ sz)) (va_Qi Q (WPost dC dI cA al sh (AW al sh sz)) (AW al sh sz)) 0 0 (AW al sh sz) := by
  refine ww_met (Qc := fun A => va_Qi Q (WPost dC dI cA al sh A) A) (by decide +kernel) (Nat.le_of_ble_eq_true rfl) (fun p e s m args below meth c A C hr hlk => ?_)
  show WW p l e (RM 2) s m args below meth c (MQ below (va_Qi Q (WPost dC dI cA al sh A) A) args s 0 0 A) dC dI cA A 2 0 0 al sh 0 [(0, .ref 0), (1, .int a1)] [] σ
  unfold m_X8_edges at h
  refine ww_iload_n C 1 rfl dX8_edges_0 ?_
  refine ww_if_lt (tgt := 10) C dX8_edges_1 (by decide) (fun hc => ?_) (fun hc => ?_)
  · have h := h.1 hc
    refine ww_bipush (v := -2) C dX8_edges_10 (by decide) ?_
    exact ww_iret C hr hlk h dX8_edges_12
  · have h := h.2 hc
    refine ww_iload_n C 1 rfl dX8_edges_4 ?_
    refine ww_bipush (v := 16) C dX8_edges_5 (by decide) ?_
    refine ww_icmp_le (tgt := 13) C dX8_edges_7 (by decide) (fun hc => ?_) (fun hc => ?_)
    · have h := h.1 hc
      refine ww_aload_n C 0 rfl dX8_edges_13 ?_
      refine ww_getR C (shc_0 hs) rfl inG8 7 (by decide) nq_36 rfl dX8_edges_14 ?_
      refine ww_aload_n C 0 rfl dX8_edges_17 ?_
      refine ww_getR C (shc_0 hs) rfl inG8 1 (by decide) nq_20 rfl dX8_edges_18 ?_
      refine ww_vv (n := 1) (As := [.ref 3]) (rest := []) C (c_X3_collect hs (shr_3 hs) h) (shc_52 hs) rfl nq_556 nq_557 nq_558 nq_35 nq_559 (by decide +kernel) rfl rfl ⟨Nat.le_of_ble_eq_true rfl, Nat.le_of_ble_eq_true rfl, Nat.le_of_ble_eq_true rfl, Nat.le_of_ble_eq_true rfl⟩ (Nat.le_of_ble_eq_true rfl) dX8_edges_21 (fun σ21 h => ?_)
      refine ww_iload_n C 1 rfl dX8_edges_24 ?_
      refine ww_if_ne (tgt := 38) C dX8_edges_25 (by decide) (fun hc => ?_) (fun hc => ?_)
      · have h := h.1 hc
        refine ww_aload_n C 0 rfl dX8_edges_38 ?_
        refine ww_getR C (shc_0 hs) rfl inG8 7 (by decide) nq_36 rfl dX8_edges_39 ?_
        refine ww_iload_n C 1 rfl dX8_edges_42 ?_
        refine ww_iconst (v := 1) C dX8_edges_43 (by decide) ?_
        refine ww_isub C dX8_edges_44 ?_
        refine ww_iconst (v := 4) C dX8_edges_45 (by decide) ?_
        refine ww_idiv C dX8_edges_46 (by decide) ?_
        refine ww_iload_n C 1 rfl dX8_edges_47 ?_
        refine ww_iconst (v := 1) C dX8_edges_48 (by decide) ?_
        refine ww_isub C dX8_edges_49 ?_
        refine ww_iconst (v := 4) C dX8_edges_50 (by decide) ?_
        refine ww_irem C dX8_edges_51 (by decide) ?_
        refine ww_vi (n := 2) (As := [.int ((a1 - 1) / 4), .int ((a1 - 1) - (a1 - 1) / 4 * 4)]) (rest := []) C (c_X3_between hs h) (shc_52 hs) rfl nq_570 nq_571 nq_572 nq_35 nq_573 (by decide +kernel) rfl rfl ⟨Nat.le_of_ble_eq_true rfl, Nat.le_of_ble_eq_true rfl, Nat.le_of_ble_eq_true rfl, Nat.le_of_ble_eq_true rfl⟩ (Nat.le_of_ble_eq_true rfl) dX8_edges_52 (fun r52 σ52 h => ?_)
        exact ww_iret C hr hlk h dX8_edges_55
      · have h := h.2 hc
        refine ww_aload_n C 0 rfl dX8_edges_28 ?_
        refine ww_getR C (shc_0 hs) rfl inG8 7 (by decide) nq_36 rfl dX8_edges_29 ?_
        refine ww_getIN C (shc_52 hs) rfl inG3 0 (by decide) (List.mem_of_getElem? (i := 2) rfl) rfl dX8_edges_32 ?_
        refine ww_goto (tgt := 55) C dX8_edges_35 (by decide) ?_
        exact ww_iret C hr hlk h dX8_edges_55
    · have h := h.2 hc
      refine ww_bipush (v := -2) C dX8_edges_10 (by decide) ?_
      exact ww_iret C hr hlk h dX8_edges_12
set_option maxRecDepth 100000 in
set_option maxHeartbeats 4000000 in
theorem c_X8_rings {l : Launch} {dC : Nat → ClassId} {dI : Nat → Nat → Nat} {cA : Nat → ClassId} {al : Nat → Nat} {sh : List Kd} (hs : ShC sh) {σ : St} {a1 : Int32} {a2 : Int32} {Q : Int32 → St → Prop} (h : m_X8_rings σ a1 a2 Q) : ∀ sz, Met l yX8_rings (wd yX8_rings cX8_rings 3 (some .int)) (RM 9) (va_Pc ([.ref 0, .int a1, .int a2].map (cv al)) (WPre dC dI cA al sh σ sz)) (va_Qi Q (WPost dC dI cA al sh (AW al sh sz)) (AW al sh sz)) 0 0 (AW al sh sz) := by
  refine ww_met (Qc := fun A => va_Qi Q (WPost dC dI cA al sh A) A) (by decide +kernel) (Nat.le_of_ble_eq_true rfl) (fun p e s m args below meth c A C hr hlk => ?_)
  show WW p l e (RM 9) s m args below meth c (MQ below (va_Qi Q (WPost dC dI cA al sh A) A) args s 0 0 A) dC dI cA A 3 0 0 al sh 0 [(0, .ref 0), (1, .int a1), (2, .int a2)] [] σ
  unfold m_X8_rings at h
  refine ww_iload_n C 1 rfl dX8_rings_0 ?_
  refine ww_iconst (v := 2) C dX8_rings_1 (by decide) ?_
  refine ww_icmp_lt (tgt := 19) C dX8_rings_2 (by decide) (fun hc => ?_) (fun hc => ?_)
  · have h := h.1 hc
    refine ww_bipush (v := -2) C dX8_rings_19 (by decide) ?_
    exact ww_iret C hr hlk h dX8_rings_21
  · have h := h.2 hc
    refine ww_iload_n C 1 rfl dX8_rings_5 ?_
    refine ww_iconst (v := 4) C dX8_rings_6 (by decide) ?_
    refine ww_icmp_gt (tgt := 19) C dX8_rings_7 (by decide) (fun hc => ?_) (fun hc => ?_)
    · have h := h.1 hc
      refine ww_bipush (v := -2) C dX8_rings_19 (by decide) ?_
      exact ww_iret C hr hlk h dX8_rings_21
    · have h := h.2 hc
      refine ww_iload_n C 2 rfl dX8_rings_10 ?_
      refine ww_if_lt (tgt := 19) C dX8_rings_11 (by decide) (fun hc => ?_) (fun hc => ?_)
      · have h := h.1 hc
        refine ww_bipush (v := -2) C dX8_rings_19 (by decide) ?_
        exact ww_iret C hr hlk h dX8_rings_21
      · have h := h.2 hc
        refine ww_iload_n C 2 rfl dX8_rings_14 ?_
        refine ww_iconst (v := 4) C dX8_rings_15 (by decide) ?_
        refine ww_icmp_lt (tgt := 22) C dX8_rings_16 (by decide) (fun hc => ?_) (fun hc => ?_)
        · have h := h.1 hc
          refine ww_aload_n C 0 rfl dX8_rings_22 ?_
          refine ww_getR C (shc_0 hs) rfl inG8 7 (by decide) nq_36 rfl dX8_rings_23 ?_
          refine ww_aload_n C 0 rfl dX8_rings_26 ?_
          refine ww_getR C (shc_0 hs) rfl inG8 1 (by decide) nq_20 rfl dX8_rings_27 ?_
          refine ww_vv (n := 1) (As := [.ref 3]) (rest := []) C (c_X3_find hs (shr_3 hs) h) (shc_52 hs) rfl nq_588 nq_589 nq_590 nq_35 nq_591 (by decide +kernel) rfl rfl ⟨Nat.le_of_ble_eq_true rfl, Nat.le_of_ble_eq_true rfl, Nat.le_of_ble_eq_true rfl, Nat.le_of_ble_eq_true rfl⟩ (Nat.le_of_ble_eq_true rfl) dX8_rings_30 (fun σ30 h => ?_)
          refine ww_aload_n C 0 rfl dX8_rings_33 ?_
          refine ww_getR C (shc_0 hs) rfl inG8 7 (by decide) nq_36 rfl dX8_rings_34 ?_
          refine ww_getRN C (shc_52 hs) rfl inG3 4 (by decide) (List.mem_of_getElem? (i := 3) rfl) rfl dX8_rings_37 ?_
          refine ww_iload_n C 1 rfl dX8_rings_40 ?_
          refine ww_iconst (v := 4) C dX8_rings_41 (by decide) ?_
          refine ww_imul C dX8_rings_42 ?_
          refine ww_iload_n C 2 rfl dX8_rings_43 ?_
          refine ww_iadd C dX8_rings_44 ?_
          refine ww_iald C (shc_56 hs) h.1 dX8_rings_45 ?_
          have h := h.2
          exact ww_iret C hr hlk h dX8_rings_46
        · have h := h.2 hc
          refine ww_bipush (v := -2) C dX8_rings_19 (by decide) ?_
          exact ww_iret C hr hlk h dX8_rings_21
set_option maxRecDepth 100000 in
set_option maxHeartbeats 4000000 in
theorem c_X8_first {l : Launch} {dC : Nat → ClassId} {dI : Nat → Nat → Nat} {cA : Nat → ClassId} {al : Nat → Nat} {sh : List Kd} (hs : ShC sh) {σ : St} {Q : Int32 → St → Prop} (h : m_X8_first σ Q) : ∀ sz, Met l yX8_first (wd yX8_first cX8_first 1 (some .int)) (RM 9) (va_Pc ([.ref 0].map (cv al)) (WPre dC dI cA al sh σ sz)) (va_Qi Q (WPost dC dI cA al sh (AW al sh sz)) (AW al sh sz)) 0 0 (AW al sh sz) := by
  refine ww_met (Qc := fun A => va_Qi Q (WPost dC dI cA al sh A) A) (by decide +kernel) (Nat.le_of_ble_eq_true rfl) (fun p e s m args below meth c A C hr hlk => ?_)
  show WW p l e (RM 9) s m args below meth c (MQ below (va_Qi Q (WPost dC dI cA al sh A) A) args s 0 0 A) dC dI cA A 1 0 0 al sh 0 [(0, .ref 0)] [] σ
  unfold m_X8_first at h
  refine ww_aload_n C 0 rfl dX8_first_0 ?_
  refine ww_getR C (shc_0 hs) rfl inG8 7 (by decide) nq_36 rfl dX8_first_1 ?_
  refine ww_aload_n C 0 rfl dX8_first_4 ?_
  refine ww_getR C (shc_0 hs) rfl inG8 1 (by decide) nq_20 rfl dX8_first_5 ?_
  refine ww_vv (n := 1) (As := [.ref 3]) (rest := []) C (c_X3_find hs (shr_3 hs) h) (shc_52 hs) rfl nq_588 nq_589 nq_590 nq_35 nq_591 (by decide +kernel) rfl rfl ⟨Nat.le_of_ble_eq_true rfl, Nat.le_of_ble_eq_true rfl, Nat.le_of_ble_eq_true rfl, Nat.le_of_ble_eq_true rfl⟩ (Nat.le_of_ble_eq_true rfl) dX8_first_8 (fun σ8 h => ?_)
  refine ww_aload_n C 0 rfl dX8_first_11 ?_
  refine ww_getR C (shc_0 hs) rfl inG8 7 (by decide) nq_36 rfl dX8_first_12 ?_
  refine ww_getIN C (shc_52 hs) rfl inG3 5 (by decide) (List.mem_of_getElem? (i := 4) rfl) rfl dX8_first_15 ?_
  exact ww_iret C hr hlk h dX8_first_18
set_option maxRecDepth 100000 in
set_option maxHeartbeats 4000000 in
theorem c_X8_areFeasible {l : Launch} {dC : Nat → ClassId} {dI : Nat → Nat → Nat} {cA : Nat → ClassId} {al : Nat → Nat} {sh : List Kd} (hs : ShC sh) {σ : St} {a1 : Int32} {Q : Int32 → St → Prop} (h : m_X8_areFeasible σ a1 Q) : ∀ sz, Met l yX8_areFeasible (wd yX8_areFeasible cX8_areFeasible 2 (some .boolean)) (RM 9) (va_Pc ([.ref 0, .int a1].map (cv al)) (WPre dC dI cA al sh σ sz)) (va_Qi Q (WPost dC dI cA al sh (AW al sh sz)) (AW al sh sz)) 0 0 (AW al sh sz) := by
  refine ww_met (Qc := fun A => va_Qi Q (WPost dC dI cA al sh A) A) (by decide +kernel) (Nat.le_of_ble_eq_true rfl) (fun p e s m args below meth c A C hr hlk => ?_)
  show WW p l e (RM 9) s m args below meth c (MQ below (va_Qi Q (WPost dC dI cA al sh A) A) args s 0 0 A) dC dI cA A 2 0 0 al sh 0 [(0, .ref 0), (1, .int a1)] [] σ
  unfold m_X8_areFeasible at h
  refine ww_aload_n C 0 rfl dX8_areFeasible_0 ?_
  refine ww_getR C (shc_0 hs) rfl inG8 7 (by decide) nq_36 rfl dX8_areFeasible_1 ?_
  refine ww_aload_n C 0 rfl dX8_areFeasible_4 ?_
  refine ww_getR C (shc_0 hs) rfl inG8 2 (by decide) nq_21 rfl dX8_areFeasible_5 ?_
  refine ww_vv (n := 1) (As := [.ref 13]) (rest := []) C (c_X3_find hs (shr_13 hs) h) (shc_52 hs) rfl nq_588 nq_589 nq_590 nq_35 nq_591 (by decide +kernel) rfl rfl ⟨Nat.le_of_ble_eq_true rfl, Nat.le_of_ble_eq_true rfl, Nat.le_of_ble_eq_true rfl, Nat.le_of_ble_eq_true rfl⟩ (Nat.le_of_ble_eq_true rfl) dX8_areFeasible_8 (fun σ8 h => ?_)
  refine ww_aload_n C 0 rfl dX8_areFeasible_11 ?_
  refine ww_getR C (shc_0 hs) rfl inG8 7 (by decide) nq_36 rfl dX8_areFeasible_12 ?_
  refine ww_vi (n := 0) (As := []) (rest := []) C (c_X3_feasible hs h) (shc_52 hs) rfl nq_678 nq_679 nq_680 nq_35 nq_681 (by decide +kernel) rfl rfl ⟨Nat.le_of_ble_eq_true rfl, Nat.le_of_ble_eq_true rfl, Nat.le_of_ble_eq_true rfl, Nat.le_of_ble_eq_true rfl⟩ (Nat.le_of_ble_eq_true rfl) dX8_areFeasible_15 (fun r15 σ15 h => ?_)
  refine ww_iload_n C 1 rfl dX8_areFeasible_18 ?_
  refine ww_icmp_lt (tgt := 26) C dX8_areFeasible_19 (by decide) (fun hc => ?_) (fun hc => ?_)
  · have h := h.1 hc
    refine ww_iconst (v := 0) C dX8_areFeasible_26 (by decide) ?_
    exact ww_zret C hr hlk (by decide) h dX8_areFeasible_27
  · have h := h.2 hc
    refine ww_iconst (v := 1) C dX8_areFeasible_22 (by decide) ?_
    refine ww_goto (tgt := 27) C dX8_areFeasible_23 (by decide) ?_
    exact ww_zret C hr hlk (by decide) h dX8_areFeasible_27
set_option maxRecDepth 100000 in
set_option maxHeartbeats 4000000 in
theorem w_X8_isCellSo_J67 {p : Program} {l : Launch} {e : Env} {s : State} {m : MethodId} {args : Array Value} {below : List Frame} {meth : Method} {c : Code} {dC : Nat → ClassId} {dI : Nat → Nat → Nat} {cA : Nat → ClassId} {A : Nat → Prop} {al : Nat → Nat} {sh : List Kd} (C : Fx p s m args c cX8_isCellSo 7 yX8_isCellSo.cls dC dI cA A al) (hr : meth.sig.returnType = some .boolean) (hlk : meth.locks = false) (hs : ShC sh) {a1 : Int32} {a2 : Int32} {a3 : Int32} {Q : Int32 → St → Prop} {σ : St} {t0 : Int32} (h : m_X8_isCellSo_J67 a1 a2 a3 Q σ t0) : WW p l e (RM 3) s m args below meth c (MQ below (va_Qi Q (WPost dC dI cA al sh A) A) args s 0 0 A) dC dI cA A 7 0 0 al sh 67 [(3, .int a3)] [.int t0] σ := by
  unfold m_X8_isCellSo_J67 at h
  refine ww_istore (lv' := [(6, .int t0), (3, .int a3)]) C dX8_isCellSo_67 (by decide) rfl ?_
  refine ww_iload C 0 rfl dX8_isCellSo_69 ?_
  refine ww_iload_n C 1 rfl dX8_isCellSo_71 ?_
  refine ww_icmp_ne (tgt := 79) C dX8_isCellSo_72 (by decide) (fun hc => ?_) (fun hc => ?_)
  · have h := h.1 hc
    refine ww_iconst (v := 0) C dX8_isCellSo_79 (by decide) ?_
    exact ww_zret C hr hlk (by decide) h dX8_isCellSo_80
  · have h := h.2 hc
    refine ww_iconst (v := 1) C dX8_isCellSo_75 (by decide) ?_
    refine ww_goto (tgt := 80) C dX8_isCellSo_76 (by decide) ?_
    exact ww_zret C hr hlk (by decide) h dX8_isCellSo_80
set_option maxRecDepth 100000 in
set_option maxHeartbeats 4000000 in
theorem c_X8_isCellSo {l : Launch} {dC : Nat → ClassId} {dI : Nat → Nat → Nat} {cA : Nat → ClassId} {al : Nat → Nat} {sh : List Kd} (hs : ShC sh) {σ : St} {a1 : Int32} {a2 : Int32} {a3 : Int32} {Q : Int32 → St → Prop} (h : m_X8_isCellSo σ a1 a2 a3 Q) : ∀ sz, Met l yX8_isCellSo (wd yX8_isCellSo cX8_isCellSo 7 (some .boolean)) (RM 3) (va_Pc ([.ref 0, .int a1, .int a2, .int a3].map (cv al)) (WPre dC dI cA al sh σ sz)) (va_Qi Q (WPost dC dI cA al sh (AW al sh sz)) (AW al sh sz)) 0 0 (AW al sh sz) := by
  refine ww_met (Qc := fun A => va_Qi Q (WPost dC dI cA al sh A) A) (by decide +kernel) (Nat.le_of_ble_eq_true rfl) (fun p e s m args below meth c A C hr hlk => ?_)
  show WW p l e (RM 3) s m args below meth c (MQ below (va_Qi Q (WPost dC dI cA al sh A) A) args s 0 0 A) dC dI cA A 7 0 0 al sh 0 [(0, .ref 0), (1, .int a1), (2, .int a2), (3, .int a3)] [] σ
  unfold m_X8_isCellSo at h
  refine ww_iload_n C 1 rfl dX8_isCellSo_0 ?_
  refine ww_bipush (v := 10) C dX8_isCellSo_1 (by decide) ?_
  refine ww_idiv C dX8_isCellSo_3 (by decide) ?_
  refine ww_nmI h (fun y4 h => ?_)
  refine ww_istore (lv' := [(4, .int y4), (0, .ref 0), (1, .int a1), (2, .int a2), (3, .int a3)]) C dX8_isCellSo_4 (by decide) rfl ?_
  refine ww_iload_n C 2 rfl dX8_isCellSo_6 ?_
  refine ww_bipush (v := 10) C dX8_isCellSo_7 (by decide) ?_
  refine ww_irem C dX8_isCellSo_9 (by decide) ?_
  refine ww_if_ne (tgt := 19) C dX8_isCellSo_10 (by decide) (fun hc => ?_) (fun hc => ?_)
  · have h := h.1 hc
    refine ww_iconst (v := 0) C dX8_isCellSo_19 (by decide) ?_
    exact ww_zret C hr hlk (by decide) h dX8_isCellSo_20
  · have h := h.2 hc
    refine ww_iload C 0 rfl dX8_isCellSo_13 ?_
    refine ww_iconst (v := 4) C dX8_isCellSo_15 (by decide) ?_
    refine ww_icmp_lt (tgt := 21) C dX8_isCellSo_16 (by decide) (fun hc => ?_) (fun hc => ?_)
    · have h := h.1 hc
      refine ww_aload_n C 1 rfl dX8_isCellSo_21 ?_
      refine ww_getR C (shc_0 hs) rfl inG8 2 (by decide) nq_21 rfl dX8_isCellSo_22 ?_
      refine ww_iload C 0 rfl dX8_isCellSo_25 ?_
      refine ww_aload_n C 1 rfl dX8_isCellSo_27 ?_
      refine ww_getR C (shc_0 hs) rfl inG8 2 (by decide) nq_21 rfl dX8_isCellSo_28 ?_
      refine ww_getIN C (row_o (shr_13 hs)) rfl inG4 0 (by decide) (List.mem_of_getElem? (i := 12) rfl) rfl dX8_isCellSo_31 ?_
      refine ww_bipush (v := -9) C dX8_isCellSo_34 (by decide) ?_
      refine ww_bipush (v := 15) C dX8_isCellSo_36 (by decide) ?_
      refine ww_si (n := 5) (As := [.ref 13, .int y4, .int (σ.1 13 0), .int (-9), .int 15]) (rest := []) C (c_X1_watch (shr_13 hs) h) nq_436 nq_437 nq_438 nq_439 (by decide +kernel) rfl rfl ⟨Nat.le_of_ble_eq_true rfl, Nat.le_of_ble_eq_true rfl, Nat.le_of_ble_eq_true rfl, Nat.le_of_ble_eq_true rfl⟩ (Nat.le_of_ble_eq_true rfl) dX8_isCellSo_38 (fun r38 σ38 h => ?_)
      refine ww_istore (lv' := [(5, .int r38), (4, .int y4), (0, .ref 0), (1, .int a1), (2, .int a2), (3, .int a3)]) C dX8_isCellSo_41 (by decide) rfl ?_
      refine ww_iload_n C 4 rfl dX8_isCellSo_43 ?_
      refine ww_if_eq (tgt := 62) C dX8_isCellSo_44 (by decide) (fun hc => ?_) (fun hc => ?_)
      · have h := h.1 hc
        refine ww_iload C 0 rfl dX8_isCellSo_62 ?_
        refine ww_si (n := 1) (As := [.int r38]) (rest := []) C (c_X1_stateOf h) nq_459 nq_452 nq_438 nq_453 (by decide +kernel) rfl rfl ⟨Nat.le_of_ble_eq_true rfl, Nat.le_of_ble_eq_true rfl, Nat.le_of_ble_eq_true rfl, Nat.le_of_ble_eq_true rfl⟩ (Nat.le_of_ble_eq_true rfl) dX8_isCellSo_64 (fun r64 σ64 h => ?_)
        refine ww_sub [5] rfl ?_
        exact w_X8_isCellSo_J67 (Q := Q) (a1 := a1) (a2 := a2) (a3 := a3) C hr hlk hs h
      · have h := h.2 hc
        refine ww_iload C 0 rfl dX8_isCellSo_47 ?_
        refine ww_bipush (v := 48) C dX8_isCellSo_49 (by decide) ?_
        refine ww_icmp_ne (tgt := 58) C dX8_isCellSo_51 (by decide) (fun hc => ?_) (fun hc => ?_)
        · have h := h.1 hc
          refine ww_iconst (v := 0) C dX8_isCellSo_58 (by decide) ?_
          refine ww_goto (tgt := 67) C dX8_isCellSo_59 (by decide) ?_
          refine ww_sub [5] rfl ?_
          exact w_X8_isCellSo_J67 (Q := Q) (a1 := a1) (a2 := a2) (a3 := a3) C hr hlk hs h
        · have h := h.2 hc
          refine ww_iconst (v := 1) C dX8_isCellSo_54 (by decide) ?_
          refine ww_goto (tgt := 67) C dX8_isCellSo_55 (by decide) ?_
          refine ww_sub [5] rfl ?_
          exact w_X8_isCellSo_J67 (Q := Q) (a1 := a1) (a2 := a2) (a3 := a3) C hr hlk hs h
    · have h := h.2 hc
      refine ww_iconst (v := 0) C dX8_isCellSo_19 (by decide) ?_
      exact ww_zret C hr hlk (by decide) h dX8_isCellSo_20
set_option maxRecDepth 100000 in
set_option maxHeartbeats 4000000 in
theorem c_X8_canBe {l : Launch} {dC : Nat → ClassId} {dI : Nat → Nat → Nat} {cA : Nat → ClassId} {al : Nat → Nat} {sh : List Kd} (hs : ShC sh) {σ : St} {a1 : Int32} {Q : Int32 → St → Prop} (h : m_X8_canBe σ a1 Q) : ∀ sz, Met l yX8_canBe (wd yX8_canBe cX8_canBe 4 (some .boolean)) (RM 10) (va_Pc ([.ref 0, .int a1].map (cv al)) (WPre dC dI cA al sh σ sz)) (va_Qi Q (WPost dC dI cA al sh (AW al sh sz)) (AW al sh sz)) 0 0 (AW al sh sz) := by
  refine ww_met (Qc := fun A => va_Qi Q (WPost dC dI cA al sh A) A) (by decide +kernel) (Nat.le_of_ble_eq_true rfl) (fun p e s m args below meth c A C hr hlk => ?_)
  show WW p l e (RM 10) s m args below meth c (MQ below (va_Qi Q (WPost dC dI cA al sh A) A) args s 0 0 A) dC dI cA A 4 0 0 al sh 0 [(0, .ref 0), (1, .int a1)] [] σ
  unfold m_X8_canBe at h
  refine ww_iload_n C 1 rfl dX8_canBe_0 ?_
  refine ww_bipush (v := 10) C dX8_canBe_1 (by decide) ?_
  refine ww_idiv C dX8_canBe_3 (by decide) ?_
  refine ww_bipush (v := 100) C dX8_canBe_4 (by decide) ?_
  refine ww_irem C dX8_canBe_6 (by decide) ?_
  refine ww_nmI h (fun y7 h => ?_)
  refine ww_istore_n (lv' := [(2, .int y7), (0, .ref 0), (1, .int a1)]) C dX8_canBe_7 rfl (by decide) rfl ?_
  refine ww_iload_n C 2 rfl dX8_canBe_8 ?_
  refine ww_bipush (v := 10) C dX8_canBe_9 (by decide) ?_
  refine ww_irem C dX8_canBe_11 (by decide) ?_
  refine ww_nmI h (fun y12 h => ?_)
  refine ww_istore_n (lv' := [(3, .int y12), (2, .int y7), (0, .ref 0), (1, .int a1)]) C dX8_canBe_12 rfl (by decide) rfl ?_
  refine ww_iload_n C 3 rfl dX8_canBe_13 ?_
  refine ww_sipush (v := 1000) C dX8_canBe_14 (by decide) ?_
  refine ww_idiv C dX8_canBe_17 (by decide) ?_
  by_cases hc1 : (a1 / 1000) = 1
  · refine ww_table (off := 38) (tgt := 56) C dX8_canBe_18 (by rw [hc1]; decide) (by rw [hc1]; decide) (by rw [hc1]; rfl) (by decide) ?_
    have h := h.1 hc1
    refine ww_iload_n C 0 rfl dX8_canBe_56 ?_
    refine ww_if_ne (tgt := 75) C dX8_canBe_57 (by decide) (fun hc => ?_) (fun hc => ?_)
    · have h := h.1 hc
      refine ww_iconst (v := 0) C dX8_canBe_75 (by decide) ?_
      exact ww_zret C hr hlk (by decide) h dX8_canBe_76
    · have h := h.2 hc
      refine ww_aload_n C 2 rfl dX8_canBe_60 ?_
      refine ww_getR C (shc_0 hs) rfl inG8 2 (by decide) nq_21 rfl dX8_canBe_61 ?_
      refine ww_iload_n C 1 rfl dX8_canBe_64 ?_
      refine ww_vi (n := 1) (As := [.int y7]) (rest := []) C (c_X4_takeOut (shr_13 hs) h) (row_o (shr_13 hs)) rfl nq_346 nq_347 nq_348 nq_19 nq_349 (by decide +kernel) rfl rfl ⟨Nat.le_of_ble_eq_true rfl, Nat.le_of_ble_eq_true rfl, Nat.le_of_ble_eq_true rfl, Nat.le_of_ble_eq_true rfl⟩ (Nat.le_of_ble_eq_true rfl) dX8_canBe_65 (fun r65 σ65 h => ?_)
      refine ww_if_eq (tgt := 75) C dX8_canBe_68 (by decide) (fun hc => ?_) (fun hc => ?_)
      · have h := h.1 hc
        refine ww_iconst (v := 0) C dX8_canBe_75 (by decide) ?_
        exact ww_zret C hr hlk (by decide) h dX8_canBe_76
      · have h := h.2 hc
        refine ww_iconst (v := 1) C dX8_canBe_71 (by decide) ?_
        refine ww_goto (tgt := 76) C dX8_canBe_72 (by decide) ?_
        exact ww_zret C hr hlk (by decide) h dX8_canBe_76
  · skip
    by_cases hc2 : (a1 / 1000) = 2
    · refine ww_table (off := 59) (tgt := 77) C dX8_canBe_18 (by rw [hc2]; decide) (by rw [hc2]; decide) (by rw [hc2]; rfl) (by decide) ?_
      have h := h.2.1 hc2
      refine ww_iload_n C 0 rfl dX8_canBe_77 ?_
      refine ww_if_ne (tgt := 96) C dX8_canBe_78 (by decide) (fun hc => ?_) (fun hc => ?_)
      · have h := h.1 hc
        refine ww_iconst (v := 0) C dX8_canBe_96 (by decide) ?_
        exact ww_zret C hr hlk (by decide) h dX8_canBe_97
      · have h := h.2 hc
        refine ww_aload_n C 2 rfl dX8_canBe_81 ?_
        refine ww_getR C (shc_0 hs) rfl inG8 2 (by decide) nq_21 rfl dX8_canBe_82 ?_
        refine ww_iload_n C 1 rfl dX8_canBe_85 ?_
        refine ww_vi (n := 1) (As := [.int y7]) (rest := []) C (c_X4_changePlaces (shr_13 hs) h) (row_o (shr_13 hs)) rfl nq_397 nq_398 nq_399 nq_19 nq_400 (by decide +kernel) rfl rfl ⟨Nat.le_of_ble_eq_true rfl, Nat.le_of_ble_eq_true rfl, Nat.le_of_ble_eq_true rfl, Nat.le_of_ble_eq_true rfl⟩ (Nat.le_of_ble_eq_true rfl) dX8_canBe_86 (fun r86 σ86 h => ?_)
        refine ww_if_eq (tgt := 96) C dX8_canBe_89 (by decide) (fun hc => ?_) (fun hc => ?_)
        · have h := h.1 hc
          refine ww_iconst (v := 0) C dX8_canBe_96 (by decide) ?_
          exact ww_zret C hr hlk (by decide) h dX8_canBe_97
        · have h := h.2 hc
          refine ww_iconst (v := 1) C dX8_canBe_92 (by decide) ?_
          refine ww_goto (tgt := 97) C dX8_canBe_93 (by decide) ?_
          exact ww_zret C hr hlk (by decide) h dX8_canBe_97
    · skip
      by_cases hc3 : (a1 / 1000) = 3
      · refine ww_table (off := 80) (tgt := 98) C dX8_canBe_18 (by rw [hc3]; decide) (by rw [hc3]; decide) (by rw [hc3]; rfl) (by decide) ?_
        have h := h.2.2.1 hc3
        refine ww_aload_n C 2 rfl dX8_canBe_98 ?_
        refine ww_iload_n C 1 rfl dX8_canBe_99 ?_
        refine ww_iconst (v := 0) C dX8_canBe_100 (by decide) ?_
        refine ww_iload_n C 0 rfl dX8_canBe_101 ?_
        refine ww_vi (n := 3) (As := [.int y7, .int 0, .int y12]) (rest := []) C (c_X8_isCellSo hs h) (shc_0 hs) rfl nq_670 nq_671 nq_672 nq_2 nq_673 (by decide +kernel) rfl rfl ⟨Nat.le_of_ble_eq_true rfl, Nat.le_of_ble_eq_true rfl, Nat.le_of_ble_eq_true rfl, Nat.le_of_ble_eq_true rfl⟩ (Nat.le_of_ble_eq_true rfl) dX8_canBe_102 (fun r102 σ102 h => ?_)
        exact ww_zret C hr hlk h.1 h.2 dX8_canBe_105
      · skip
        by_cases hc4 : (a1 / 1000) = 4
        · refine ww_table (off := 88) (tgt := 106) C dX8_canBe_18 (by rw [hc4]; decide) (by rw [hc4]; decide) (by rw [hc4]; rfl) (by decide) ?_
          have h := h.2.2.2.1 hc4
          refine ww_aload_n C 2 rfl dX8_canBe_106 ?_
          refine ww_iload_n C 1 rfl dX8_canBe_107 ?_
          refine ww_iconst (v := 1) C dX8_canBe_108 (by decide) ?_
          refine ww_iload_n C 0 rfl dX8_canBe_109 ?_
          refine ww_vi (n := 3) (As := [.int y7, .int 1, .int y12]) (rest := []) C (c_X8_isCellSo hs h) (shc_0 hs) rfl nq_670 nq_671 nq_672 nq_2 nq_673 (by decide +kernel) rfl rfl ⟨Nat.le_of_ble_eq_true rfl, Nat.le_of_ble_eq_true rfl, Nat.le_of_ble_eq_true rfl, Nat.le_of_ble_eq_true rfl⟩ (Nat.le_of_ble_eq_true rfl) dX8_canBe_110 (fun r110 σ110 h => ?_)
          exact ww_zret C hr hlk h.1 h.2 dX8_canBe_113
        · skip
          by_cases hc5 : (a1 / 1000) = 5
          · refine ww_table (off := 96) (tgt := 114) C dX8_canBe_18 (by rw [hc5]; decide) (by rw [hc5]; decide) (by rw [hc5]; rfl) (by decide) ?_
            have h := h.2.2.2.2.1 hc5
            refine ww_iload_n C 1 rfl dX8_canBe_114 ?_
            refine ww_if_ne (tgt := 130) C dX8_canBe_115 (by decide) (fun hc => ?_) (fun hc => ?_)
            · have h := h.1 hc
              refine ww_iconst (v := 0) C dX8_canBe_130 (by decide) ?_
              exact ww_zret C hr hlk (by decide) h dX8_canBe_131
            · have h := h.2 hc
              refine ww_aload_n C 2 rfl dX8_canBe_118 ?_
              refine ww_iload_n C 0 rfl dX8_canBe_119 ?_
              refine ww_vi (n := 1) (As := [.int y12]) (rest := []) C (c_X8_areFeasible hs h) (shc_0 hs) rfl nq_674 nq_675 nq_676 nq_2 nq_677 (by decide +kernel) rfl rfl ⟨Nat.le_of_ble_eq_true rfl, Nat.le_of_ble_eq_true rfl, Nat.le_of_ble_eq_true rfl, Nat.le_of_ble_eq_true rfl⟩ (Nat.le_of_ble_eq_true rfl) dX8_canBe_120 (fun r120 σ120 h => ?_)
              refine ww_if_eq (tgt := 130) C dX8_canBe_123 (by decide) (fun hc => ?_) (fun hc => ?_)
              · have h := h.1 hc
                refine ww_iconst (v := 0) C dX8_canBe_130 (by decide) ?_
                exact ww_zret C hr hlk (by decide) h dX8_canBe_131
              · have h := h.2 hc
                refine ww_iconst (v := 1) C dX8_canBe_126 (by decide) ?_
                refine ww_goto (tgt := 131) C dX8_canBe_127 (by decide) ?_
                exact ww_zret C hr hlk (by decide) h dX8_canBe_131
          · skip
            by_cases hc6 : (a1 / 1000) = 6
            · refine ww_table (off := 114) (tgt := 132) C dX8_canBe_18 (by rw [hc6]; decide) (by rw [hc6]; decide) (by rw [hc6]; rfl) (by decide) ?_
              have h := h.2.2.2.2.2.1 hc6
              refine ww_aload_n C 2 rfl dX8_canBe_132 ?_
              refine ww_getR C (shc_0 hs) rfl inG8 2 (by decide) nq_21 rfl dX8_canBe_133 ?_
              refine ww_iload_n C 1 rfl dX8_canBe_136 ?_
              refine ww_vi (n := 1) (As := [.int y7]) (rest := []) C (c_X4_has (shr_13 hs) h) (row_o (shr_13 hs)) rfl nq_299 nq_300 nq_301 nq_19 nq_302 (by decide +kernel) rfl rfl ⟨Nat.le_of_ble_eq_true rfl, Nat.le_of_ble_eq_true rfl, Nat.le_of_ble_eq_true rfl, Nat.le_of_ble_eq_true rfl⟩ (Nat.le_of_ble_eq_true rfl) dX8_canBe_137 (fun r137 σ137 h => ?_)
              refine ww_if_eq (tgt := 168) C dX8_canBe_140 (by decide) (fun hc => ?_) (fun hc => ?_)
              · have h := h.1 hc
                refine ww_iconst (v := 0) C dX8_canBe_168 (by decide) ?_
                exact ww_zret C hr hlk (by decide) h dX8_canBe_169
              · have h := h.2 hc
                refine ww_iload_n C 0 rfl dX8_canBe_143 ?_
                refine ww_iconst (v := 4) C dX8_canBe_144 (by decide) ?_
                refine ww_icmp_ge (tgt := 168) C dX8_canBe_145 (by decide) (fun hc => ?_) (fun hc => ?_)
                · have h := h.1 hc
                  refine ww_iconst (v := 0) C dX8_canBe_168 (by decide) ?_
                  exact ww_zret C hr hlk (by decide) h dX8_canBe_169
                · have h := h.2 hc
                  refine ww_aload_n C 2 rfl dX8_canBe_148 ?_
                  refine ww_getR C (shc_0 hs) rfl inG8 2 (by decide) nq_21 rfl dX8_canBe_149 ?_
                  refine ww_iload_n C 1 rfl dX8_canBe_152 ?_
                  refine ww_vi (n := 1) (As := [.int y7]) (rest := []) C (c_X4_heldAt (shr_13 hs) h) (row_o (shr_13 hs)) rfl nq_682 nq_566 nq_567 nq_19 nq_568 (by decide +kernel) rfl rfl ⟨Nat.le_of_ble_eq_true rfl, Nat.le_of_ble_eq_true rfl, Nat.le_of_ble_eq_true rfl, Nat.le_of_ble_eq_true rfl⟩ (Nat.le_of_ble_eq_true rfl) dX8_canBe_153 (fun r153 σ153 h => ?_)
                  refine ww_iload_n C 0 rfl dX8_canBe_156 ?_
                  refine ww_ishr C dX8_canBe_157 ?_
                  refine ww_iconst (v := 1) C dX8_canBe_158 (by decide) ?_
                  refine ww_iand C dX8_canBe_159 ?_
                  refine ww_iconst (v := 1) C dX8_canBe_160 (by decide) ?_
                  refine ww_icmp_ne (tgt := 168) C dX8_canBe_161 (by decide) (fun hc => ?_) (fun hc => ?_)
                  · have h := h.1 hc
                    refine ww_iconst (v := 0) C dX8_canBe_168 (by decide) ?_
                    exact ww_zret C hr hlk (by decide) h dX8_canBe_169
                  · have h := h.2 hc
                    refine ww_iconst (v := 1) C dX8_canBe_164 (by decide) ?_
                    refine ww_goto (tgt := 169) C dX8_canBe_165 (by decide) ?_
                    exact ww_zret C hr hlk (by decide) h dX8_canBe_169
            · skip
              have nhc1 := ne_toInt (n := 1) hc1
              have nhc2 := ne_toInt (n := 2) hc2
              have nhc3 := ne_toInt (n := 3) hc3
              have nhc4 := ne_toInt (n := 4) hc4
              have nhc5 := ne_toInt (n := 5) hc5
              have nhc6 := ne_toInt (n := 6) hc6
              refine ww_tableO (tgt := 170) C dX8_canBe_18 (by omega) (by decide) ?_
              have h := h.2.2.2.2.2.2 ⟨hc1, hc2, hc3, hc4, hc5, hc6⟩
              refine ww_iconst (v := 0) C dX8_canBe_170 (by decide) ?_
              exact ww_zret C hr hlk (by decide) h dX8_canBe_171
set_option maxRecDepth 100000 in
set_option maxHeartbeats 4000000 in
theorem w_X8_judge_L43b {p : Program} {l : Launch} {e : Env} {s : State} {m : MethodId} {args : Array Value} {below : List Frame} {meth : Method} {c : Code} {dC : Nat → ClassId} {dI : Nat → Nat → Nat} {cA : Nat → ClassId} {A : Nat → Prop} {al : Nat → Nat} {sh : List Kd} (C : Fx p s m args c cX8_judge 6 yX8_judge.cls dC dI cA A al) (hr : meth.sig.returnType = some .int) (hlk : meth.locks = false) (hs : ShC sh) {a1 : Int32} {a2 : Int64} {Q : Int32 → St → Prop} {K79 : St → Int32 → Prop} (hK79 : ∀ (σ : St) (x4 : Int32), K79 σ x4 → WW p l e (RM 11) s m args below meth c (MQ below (va_Qi Q (WPost dC dI cA al sh A) A) args s 0 0 A) dC dI cA A 6 0 0 al sh 79 [(4, .int x4)] [] σ) {K88 : St → Prop} (hK88 : ∀ (σ : St), K88 σ → WW p l e (RM 11) s m args below meth c (MQ below (va_Qi Q (WPost dC dI cA al sh A) A) args s 0 0 A) dC dI cA A 6 0 0 al sh 88 [] [] σ) {Rc : St → Int32 → Prop} (hRc : ∀ (σ : St) (x4 : Int32), Rc σ x4 → WW p l e (RM 11) s m args below meth c (MQ below (va_Qi Q (WPost dC dI cA al sh A) A) args s 0 0 A) dC dI cA A 6 0 0 al sh 43 [(0, .ref 0), (1, .int a1), (2, .long a2), (4, .int x4)] [] σ) {σ : St} {x4 : Int32} (h : m_X8_judge_L43b a1 a2 Q K79 K88 Rc σ x4) : WW p l e (RM 11) s m args below meth c (MQ below (va_Qi Q (WPost dC dI cA al sh A) A) args s 0 0 A) dC dI cA A 6 0 0 al sh 43 [(0, .ref 0), (1, .int a1), (2, .long a2), (4, .int x4)] [] σ := by
  unfold m_X8_judge_L43b at h
  refine ww_iload C 3 rfl dX8_judge_43 ?_
  refine ww_iload_n C 1 rfl dX8_judge_45 ?_
  refine ww_icmp_ge (tgt := 88) C dX8_judge_46 (by decide) (fun hc => ?_) (fun hc => ?_)
  · have h := h.1 hc
    refine ww_sub [] rfl ?_
    exact hK88 _ h
  · have h := h.2 hc
    refine ww_lload_n C 2 rfl dX8_judge_49 ?_
    refine ww_gsD C nq_665 dX8_judge_50 ?_
    refine ww_iload_n C 1 rfl dX8_judge_53 ?_
    refine ww_iconst (v := 1) C dX8_judge_54 (by decide) ?_
    refine ww_isub C dX8_judge_55 ?_
    refine ww_iload C 3 rfl dX8_judge_56 ?_
    refine ww_isub C dX8_judge_58 ?_
    refine ww_sldD C h.1 dX8_judge_59 ?_
    have h := h.2
    refine ww_ldiv C dX8_judge_60 h.1 ?_
    have h := h.2
    refine ww_gsD C nq_665 dX8_judge_61 ?_
    refine ww_iconst (v := 1) C dX8_judge_64 (by decide) ?_
    refine ww_sldD C h.1 dX8_judge_65 ?_
    have h := h.2
    refine ww_lrem C dX8_judge_66 h.1 ?_
    have h := h.2
    refine ww_l2i C dX8_judge_67 ?_
    refine ww_nmI h (fun y68 h => ?_)
    refine ww_istore (lv' := [(5, .int y68), (0, .ref 0), (1, .int a1), (2, .long a2), (4, .int x4)]) C dX8_judge_68 (by decide) rfl ?_
    refine ww_aload_n C 1 rfl dX8_judge_70 ?_
    refine ww_iload C 0 rfl dX8_judge_71 ?_
    refine ww_vi (n := 1) (As := [.int y68]) (rest := []) C (c_X8_canBe hs h) (shc_0 hs) rfl nq_666 nq_667 nq_668 nq_2 nq_669 (by decide +kernel) rfl rfl ⟨Nat.le_of_ble_eq_true rfl, Nat.le_of_ble_eq_true rfl, Nat.le_of_ble_eq_true rfl, Nat.le_of_ble_eq_true rfl⟩ (Nat.le_of_ble_eq_true rfl) dX8_judge_73 (fun r73 σ73 h => ?_)
    refine ww_if_ne (tgt := 82) C dX8_judge_76 (by decide) (fun hc => ?_) (fun hc => ?_)
    · have h := h.1 hc
      refine ww_iinc (v := (x4 + 1)) (lv' := [(4, .int (x4 + 1)), (5, .int y68), (0, .ref 0), (1, .int a1), (2, .long a2)]) C 4 rfl dX8_judge_82 rfl (by decide) rfl ?_
      refine ww_goto (tgt := 43) C dX8_judge_85 (by decide) ?_
      refine ww_sub [2, 3, 4, 0] rfl ?_
      exact hRc _ _ h
    · have h := h.2 hc
      refine ww_sub [4] rfl ?_
      exact hK79 _ _ h
set_option maxRecDepth 100000 in
set_option maxHeartbeats 4000000 in
theorem w_X8_judge_L43 {p : Program} {l : Launch} {e : Env} {s : State} {m : MethodId} {args : Array Value} {below : List Frame} {meth : Method} {c : Code} {dC : Nat → ClassId} {dI : Nat → Nat → Nat} {cA : Nat → ClassId} {A : Nat → Prop} {al : Nat → Nat} {sh : List Kd} (C : Fx p s m args c cX8_judge 6 yX8_judge.cls dC dI cA A al) (hr : meth.sig.returnType = some .int) (hlk : meth.locks = false) (hs : ShC sh) {a1 : Int32} {a2 : Int64} {Q : Int32 → St → Prop} {K79 : St → Int32 → Prop} (hK79 : ∀ (σ : St) (x4 : Int32), K79 σ x4 → WW p l e (RM 11) s m args below meth c (MQ below (va_Qi Q (WPost dC dI cA al sh A) A) args s 0 0 A) dC dI cA A 6 0 0 al sh 79 [(4, .int x4)] [] σ) {K88 : St → Prop} (hK88 : ∀ (σ : St), K88 σ → WW p l e (RM 11) s m args below meth c (MQ below (va_Qi Q (WPost dC dI cA al sh A) A) args s 0 0 A) dC dI cA A 6 0 0 al sh 88 [] [] σ) : ∀ (f : Nat) (σ : St) (x4 : Int32), m_X8_judge_L43 a1 a2 Q K79 K88 f σ x4 → WW p l e (RM 11) s m args below meth c (MQ below (va_Qi Q (WPost dC dI cA al sh A) A) args s 0 0 A) dC dI cA A 6 0 0 al sh 43 [(0, .ref 0), (1, .int a1), (2, .long a2), (4, .int x4)] [] σ := by
  intro f
  induction f with
  | zero => intro σ x4 h; exact False.elim h
  | succ f ih => intro σ x4 h; exact w_X8_judge_L43b (Q := Q) (a1 := a1) (a2 := a2) C hr hlk hs hK79 hK88 ih h
set_option maxRecDepth 100000 in
set_option maxHeartbeats 4000000 in
theorem w_X8_judge_J79 {p : Program} {l : Launch} {e : Env} {s : State} {m : MethodId} {args : Array Value} {below : List Frame} {meth : Method} {c : Code} {dC : Nat → ClassId} {dI : Nat → Nat → Nat} {cA : Nat → ClassId} {A : Nat → Prop} {al : Nat → Nat} {sh : List Kd} (C : Fx p s m args c cX8_judge 6 yX8_judge.cls dC dI cA A al) (hr : meth.sig.returnType = some .int) (hlk : meth.locks = false) (hs : ShC sh) {a1 : Int32} {a2 : Int64} {Q : Int32 → St → Prop} {σ : St} {x4 : Int32} (h : m_X8_judge_J79 a1 a2 Q σ x4) : WW p l e (RM 11) s m args below meth c (MQ below (va_Qi Q (WPost dC dI cA al sh A) A) args s 0 0 A) dC dI cA A 6 0 0 al sh 79 [(4, .int x4)] [] σ := by
  unfold m_X8_judge_J79 at h
  refine ww_iload C 0 rfl dX8_judge_79 ?_
  exact ww_iret C hr hlk h dX8_judge_81
set_option maxRecDepth 100000 in
set_option maxHeartbeats 4000000 in
theorem w_X8_judge_J88 {p : Program} {l : Launch} {e : Env} {s : State} {m : MethodId} {args : Array Value} {below : List Frame} {meth : Method} {c : Code} {dC : Nat → ClassId} {dI : Nat → Nat → Nat} {cA : Nat → ClassId} {A : Nat → Prop} {al : Nat → Nat} {sh : List Kd} (C : Fx p s m args c cX8_judge 6 yX8_judge.cls dC dI cA A al) (hr : meth.sig.returnType = some .int) (hlk : meth.locks = false) (hs : ShC sh) {a1 : Int32} {a2 : Int64} {Q : Int32 → St → Prop} {σ : St} (h : m_X8_judge_J88 a1 a2 Q σ) : WW p l e (RM 11) s m args below meth c (MQ below (va_Qi Q (WPost dC dI cA al sh A) A) args s 0 0 A) dC dI cA A 6 0 0 al sh 88 [] [] σ := by
  unfold m_X8_judge_J88 at h
  refine ww_bipush (v := -9) C dX8_judge_88 (by decide) ?_
  exact ww_iret C hr hlk h dX8_judge_90
set_option maxRecDepth 100000 in
set_option maxHeartbeats 4000000 in
theorem c_X8_judge {l : Launch} {dC : Nat → ClassId} {dI : Nat → Nat → Nat} {cA : Nat → ClassId} {al : Nat → Nat} {sh : List Kd} (hs : ShC sh) {σ : St} {a1 : Int32} {a2 : Int64} {Q : Int32 → St → Prop} (h : m_X8_judge σ a1 a2 Q) : ∀ sz, Met l yX8_judge (wd yX8_judge cX8_judge 6 (some .int)) (RM 11) (va_Pc ([.ref 0, .int a1, .long a2].map (cv al)) (WPre dC dI cA al sh σ sz)) (va_Qi Q (WPost dC dI cA al sh (AW al sh sz)) (AW al sh sz)) 0 0 (AW al sh sz) := by
  refine ww_met (Qc := fun A => va_Qi Q (WPost dC dI cA al sh A) A) (by decide +kernel) (Nat.le_of_ble_eq_true rfl) (fun p e s m args below meth c A C hr hlk => ?_)
  show WW p l e (RM 11) s m args below meth c (MQ below (va_Qi Q (WPost dC dI cA al sh A) A) args s 0 0 A) dC dI cA A 6 0 0 al sh 0 [(0, .ref 0), (1, .int a1), (2, .long a2)] [] σ
  unfold m_X8_judge at h
  refine ww_iload_n C 1 rfl dX8_judge_0 ?_
  refine ww_iconst (v := 1) C dX8_judge_1 (by decide) ?_
  refine ww_icmp_lt (tgt := 26) C dX8_judge_2 (by decide) (fun hc => ?_) (fun hc => ?_)
  · have h := h.1 hc
    refine ww_bipush (v := -2) C dX8_judge_26 (by decide) ?_
    exact ww_iret C hr hlk h dX8_judge_28
  · have h := h.2 hc
    refine ww_iload_n C 1 rfl dX8_judge_5 ?_
    refine ww_iconst (v := 4) C dX8_judge_6 (by decide) ?_
    refine ww_icmp_gt (tgt := 26) C dX8_judge_7 (by decide) (fun hc => ?_) (fun hc => ?_)
    · have h := h.1 hc
      refine ww_bipush (v := -2) C dX8_judge_26 (by decide) ?_
      exact ww_iret C hr hlk h dX8_judge_28
    · have h := h.2 hc
      refine ww_lload_n C 2 rfl dX8_judge_10 ?_
      refine ww_lconst (v := 0) C dX8_judge_11 (by decide) ?_
      refine ww_lcmp C dX8_judge_12 ?_
      refine ww_if_lt (tgt := 26) C dX8_judge_13 (by decide) (fun hc => ?_) (fun hc => ?_)
      · have h := h.1 hc
        refine ww_bipush (v := -2) C dX8_judge_26 (by decide) ?_
        exact ww_iret C hr hlk h dX8_judge_28
      · have h := h.2 hc
        refine ww_lload_n C 2 rfl dX8_judge_16 ?_
        refine ww_gsD C nq_665 dX8_judge_17 ?_
        refine ww_iload_n C 1 rfl dX8_judge_20 ?_
        refine ww_sldD C h.1 dX8_judge_21 ?_
        have h := h.2
        refine ww_lcmp C dX8_judge_22 ?_
        refine ww_if_lt (tgt := 29) C dX8_judge_23 (by decide) (fun hc => ?_) (fun hc => ?_)
        · have h := h.1 hc
          refine ww_aload_n C 0 rfl dX8_judge_29 ?_
          refine ww_getR C (shc_0 hs) rfl inG8 2 (by decide) nq_21 rfl dX8_judge_30 ?_
          refine ww_aload_n C 0 rfl dX8_judge_33 ?_
          refine ww_getR C (shc_0 hs) rfl inG8 1 (by decide) nq_20 rfl dX8_judge_34 ?_
          refine ww_vv (n := 1) (As := [.ref 3]) (rest := []) C (c_X4_copy (shr_13 hs) (shr_3 hs) h) (row_o (shr_13 hs)) rfl nq_281 nq_282 nq_283 nq_19 nq_284 (by decide +kernel) rfl rfl ⟨Nat.le_of_ble_eq_true rfl, Nat.le_of_ble_eq_true rfl, Nat.le_of_ble_eq_true rfl, Nat.le_of_ble_eq_true rfl⟩ (Nat.le_of_ble_eq_true rfl) dX8_judge_37 (fun σ37 h => ?_)
          refine ww_iconst (v := 0) C dX8_judge_40 (by decide) ?_
          refine ww_istore (lv' := [(4, .int 0), (0, .ref 0), (1, .int a1), (2, .long a2)]) C dX8_judge_41 (by decide) rfl ?_
          refine ww_sub [1, 2, 3, 0] rfl ?_
          obtain ⟨f, h⟩ := h
          exact w_X8_judge_L43 (Q := Q) (a1 := a1) (a2 := a2) C hr hlk hs (fun σ x4 h => by exact w_X8_judge_J79 (Q := Q) (a1 := a1) (a2 := a2) C hr hlk hs h) (fun σ h => by exact w_X8_judge_J88 (Q := Q) (a1 := a1) (a2 := a2) C hr hlk hs h) f _ _ h
        · have h := h.2 hc
          refine ww_bipush (v := -2) C dX8_judge_26 (by decide) ?_
          exact ww_iret C hr hlk h dX8_judge_28
set_option maxRecDepth 100000 in
set_option maxHeartbeats 4000000 in
theorem w_X8_see_J46 {p : Program} {l : Launch} {e : Env} {s : State} {m : MethodId} {args : Array Value} {below : List Frame} {meth : Method} {c : Code} {dC : Nat → ClassId} {dI : Nat → Nat → Nat} {cA : Nat → ClassId} {A : Nat → Prop} {al : Nat → Nat} {sh : List Kd} (C : Fx p s m args c cX8_see 4 yX8_see.cls dC dI cA A al) (hr : meth.sig.returnType = some .int) (hlk : meth.locks = false) (hs : ShC sh) {a1 : Int32} {a2 : Int32} {a3 : Int32} {Q : Int32 → St → Prop} {σ : St} {t1 : Int32} {t2 : Int32} {t3 : Int32} (h : m_X8_see_J46 a1 a2 a3 Q σ t1 t2 t3) : WW p l e (RM 1) s m args below meth c (MQ below (va_Qi Q (WPost dC dI cA al sh A) A) args s 0 0 A) dC dI cA A 4 0 0 al sh 46 [(0, .ref 0)] [.int t3, .int t2, .int t1, .ref 48] σ := by
  unfold m_X8_see_J46 at h
  refine ww_vi (n := 3) (As := [.int t1, .int t2, .int t3]) (rest := []) C (c_X5_put hs h) (shc_48 hs) rfl nq_711 nq_712 nq_713 nq_31 nq_714 (by decide +kernel) rfl rfl ⟨Nat.le_of_ble_eq_true rfl, Nat.le_of_ble_eq_true rfl, Nat.le_of_ble_eq_true rfl, Nat.le_of_ble_eq_true rfl⟩ (Nat.le_of_ble_eq_true rfl) dX8_see_46 (fun r46 σ46 h => ?_)
  refine ww_if_eq (tgt := 62) C dX8_see_49 (by decide) (fun hc => ?_) (fun hc => ?_)
  · have h := h.1 hc
    refine ww_bipush (v := -4) C dX8_see_62 (by decide) ?_
    exact ww_iret C hr hlk h dX8_see_64
  · have h := h.2 hc
    refine ww_aload_n C 0 rfl dX8_see_52 ?_
    refine ww_getR C (shc_0 hs) rfl inG8 6 (by decide) nq_32 rfl dX8_see_53 ?_
    refine ww_getIN C (shc_48 hs) rfl inG5 0 (by decide) (List.mem_of_getElem? (i := 5) rfl) rfl dX8_see_56 ?_
    refine ww_goto (tgt := 64) C dX8_see_59 (by decide) ?_
    exact ww_iret C hr hlk h dX8_see_64
set_option maxRecDepth 100000 in
set_option maxHeartbeats 4000000 in
theorem c_X8_see {l : Launch} {dC : Nat → ClassId} {dI : Nat → Nat → Nat} {cA : Nat → ClassId} {al : Nat → Nat} {sh : List Kd} (hs : ShC sh) {σ : St} {a1 : Int32} {a2 : Int32} {a3 : Int32} {Q : Int32 → St → Prop} (h : m_X8_see σ a1 a2 a3 Q) : ∀ sz, Met l yX8_see (wd yX8_see cX8_see 4 (some .int)) (RM 1) (va_Pc ([.ref 0, .int a1, .int a2, .int a3].map (cv al)) (WPre dC dI cA al sh σ sz)) (va_Qi Q (WPost dC dI cA al sh (AW al sh sz)) (AW al sh sz)) 0 0 (AW al sh sz) := by
  refine ww_met (Qc := fun A => va_Qi Q (WPost dC dI cA al sh A) A) (by decide +kernel) (Nat.le_of_ble_eq_true rfl) (fun p e s m args below meth c A C hr hlk => ?_)
  show WW p l e (RM 1) s m args below meth c (MQ below (va_Qi Q (WPost dC dI cA al sh A) A) args s 0 0 A) dC dI cA A 4 0 0 al sh 0 [(0, .ref 0), (1, .int a1), (2, .int a2), (3, .int a3)] [] σ
  unfold m_X8_see at h
  refine ww_iload_n C 1 rfl dX8_see_0 ?_
  refine ww_si (n := 1) (As := [.int a1]) (rest := []) C (c_X8_isOneOfFour hs h) nq_435 nq_207 nq_2 nq_208 (by decide +kernel) rfl rfl ⟨Nat.le_of_ble_eq_true rfl, Nat.le_of_ble_eq_true rfl, Nat.le_of_ble_eq_true rfl, Nat.le_of_ble_eq_true rfl⟩ (Nat.le_of_ble_eq_true rfl) dX8_see_1 (fun r1 σ1 h => ?_)
  refine ww_if_ne (tgt := 9) C dX8_see_4 (by decide) (fun hc => ?_) (fun hc => ?_)
  · have h := h.1 hc
    refine ww_iload_n C 2 rfl dX8_see_9 ?_
    refine ww_if_lt (tgt := 27) C dX8_see_10 (by decide) (fun hc => ?_) (fun hc => ?_)
    · have h := h.1 hc
      refine ww_bipush (v := -2) C dX8_see_27 (by decide) ?_
      exact ww_iret C hr hlk h dX8_see_29
    · have h := h.2 hc
      refine ww_iload_n C 2 rfl dX8_see_13 ?_
      refine ww_iconst (v := 3) C dX8_see_14 (by decide) ?_
      refine ww_icmp_gt (tgt := 27) C dX8_see_15 (by decide) (fun hc => ?_) (fun hc => ?_)
      · have h := h.1 hc
        refine ww_bipush (v := -2) C dX8_see_27 (by decide) ?_
        exact ww_iret C hr hlk h dX8_see_29
      · have h := h.2 hc
        refine ww_iload_n C 3 rfl dX8_see_18 ?_
        refine ww_if_lt (tgt := 27) C dX8_see_19 (by decide) (fun hc => ?_) (fun hc => ?_)
        · have h := h.1 hc
          refine ww_bipush (v := -2) C dX8_see_27 (by decide) ?_
          exact ww_iret C hr hlk h dX8_see_29
        · have h := h.2 hc
          refine ww_iload_n C 3 rfl dX8_see_22 ?_
          refine ww_iconst (v := 1) C dX8_see_23 (by decide) ?_
          refine ww_icmp_le (tgt := 30) C dX8_see_24 (by decide) (fun hc => ?_) (fun hc => ?_)
          · have h := h.1 hc
            refine ww_aload_n C 0 rfl dX8_see_30 ?_
            refine ww_getR C (shc_0 hs) rfl inG8 6 (by decide) nq_32 rfl dX8_see_31 ?_
            refine ww_iload_n C 1 rfl dX8_see_34 ?_
            refine ww_iload_n C 2 rfl dX8_see_35 ?_
            refine ww_iload_n C 3 rfl dX8_see_36 ?_
            refine ww_iconst (v := 1) C dX8_see_37 (by decide) ?_
            refine ww_icmp_ne (tgt := 45) C dX8_see_38 (by decide) (fun hc => ?_) (fun hc => ?_)
            · have h := h.1 hc
              refine ww_iconst (v := 0) C dX8_see_45 (by decide) ?_
              refine ww_sub [0] rfl ?_
              exact w_X8_see_J46 (Q := Q) (a1 := a1) (a2 := a2) (a3 := a3) C hr hlk hs h
            · have h := h.2 hc
              refine ww_iconst (v := 1) C dX8_see_41 (by decide) ?_
              refine ww_goto (tgt := 46) C dX8_see_42 (by decide) ?_
              refine ww_sub [0] rfl ?_
              exact w_X8_see_J46 (Q := Q) (a1 := a1) (a2 := a2) (a3 := a3) C hr hlk hs h
          · have h := h.2 hc
            refine ww_bipush (v := -2) C dX8_see_27 (by decide) ?_
            exact ww_iret C hr hlk h dX8_see_29
  · have h := h.2 hc
    refine ww_iconst (v := -1) C dX8_see_7 (by decide) ?_
    exact ww_iret C hr hlk h dX8_see_8
set_option maxRecDepth 100000 in
set_option maxHeartbeats 4000000 in
theorem c_X8_unsee {l : Launch} {dC : Nat → ClassId} {dI : Nat → Nat → Nat} {cA : Nat → ClassId} {al : Nat → Nat} {sh : List Kd} (hs : ShC sh) {σ : St} {Q : Int32 → St → Prop} (h : m_X8_unsee σ Q) : ∀ sz, Met l yX8_unsee (wd yX8_unsee cX8_unsee 2 (some .int)) (RM 0) (va_Pc ([.ref 0].map (cv al)) (WPre dC dI cA al sh σ sz)) (va_Qi Q (WPost dC dI cA al sh (AW al sh sz)) (AW al sh sz)) 0 0 (AW al sh sz) := by
  refine ww_met (Qc := fun A => va_Qi Q (WPost dC dI cA al sh A) A) (by decide +kernel) (Nat.le_of_ble_eq_true rfl) (fun p e s m args below meth c A C hr hlk => ?_)
  show WW p l e (RM 0) s m args below meth c (MQ below (va_Qi Q (WPost dC dI cA al sh A) A) args s 0 0 A) dC dI cA A 2 0 0 al sh 0 [(0, .ref 0)] [] σ
  unfold m_X8_unsee at h
  refine ww_aload_n C 0 rfl dX8_unsee_0 ?_
  refine ww_getR C (shc_0 hs) rfl inG8 6 (by decide) nq_32 rfl dX8_unsee_1 ?_
  refine ww_getIN C (shc_48 hs) rfl inG5 0 (by decide) (List.mem_of_getElem? (i := 5) rfl) rfl dX8_unsee_4 ?_
  refine ww_nmI h (fun y7 h => ?_)
  refine ww_istore_n (lv' := [(1, .int y7), (0, .ref 0)]) C dX8_unsee_7 rfl (by decide) rfl ?_
  refine ww_aload_n C 1 rfl dX8_unsee_8 ?_
  refine ww_getR C (shc_0 hs) rfl inG8 6 (by decide) nq_32 rfl dX8_unsee_9 ?_
  refine ww_iconst (v := 0) C dX8_unsee_12 (by decide) ?_
  refine ww_putIN C (shc_48 hs) rfl inG5 0 (by decide) (List.mem_of_getElem? (i := 5) rfl) tyX5 tyX5_ok nmX5 rfl (by decide +kernel) rfl dX8_unsee_13 h (fun σ13 h => ?_)
  refine ww_iload_n C 0 rfl dX8_unsee_16 ?_
  exact ww_iret C hr hlk h dX8_unsee_17
set_option maxRecDepth 100000 in
set_option maxHeartbeats 4000000 in
theorem c_X8_which {l : Launch} {dC : Nat → ClassId} {dI : Nat → Nat → Nat} {cA : Nat → ClassId} {al : Nat → Nat} {sh : List Kd} (hs : ShC sh) {σ : St} {a1 : Int32} {Q : Int32 → St → Prop} (h : m_X8_which σ a1 Q) : ∀ sz, Met l yX8_which (wd yX8_which cX8_which 2 (some .int)) (RM 5) (va_Pc ([.ref 0, .int a1].map (cv al)) (WPre dC dI cA al sh σ sz)) (va_Qi Q (WPost dC dI cA al sh (AW al sh sz)) (AW al sh sz)) 0 0 (AW al sh sz) := by
  refine ww_met (Qc := fun A => va_Qi Q (WPost dC dI cA al sh A) A) (by decide +kernel) (Nat.le_of_ble_eq_true rfl) (fun p e s m args below meth c A C hr hlk => ?_)
  show WW p l e (RM 5) s m args below meth c (MQ below (va_Qi Q (WPost dC dI cA al sh A) A) args s 0 0 A) dC dI cA A 2 0 0 al sh 0 [(0, .ref 0), (1, .int a1)] [] σ
  unfold m_X8_which at h
  refine ww_iload_n C 1 rfl dX8_which_0 ?_
  by_cases hc0 : a1 = 0
  · refine ww_lookup (off := 27) (tgt := 28) C dX8_which_1 (by decide) (by rw [hc0]; rfl) (by decide) ?_
    have h := h.1 hc0
    refine ww_aload_n C 0 rfl dX8_which_28 ?_
    refine ww_getR C (shc_0 hs) rfl inG8 6 (by decide) nq_32 rfl dX8_which_29 ?_
    refine ww_aload_n C 0 rfl dX8_which_32 ?_
    refine ww_getR C (shc_0 hs) rfl inG8 1 (by decide) nq_20 rfl dX8_which_33 ?_
    refine ww_vi (n := 1) (As := [.ref 3]) (rest := []) C (c_X5_fittingCount hs (shr_3 hs) h) (shc_48 hs) rfl nq_733 nq_734 nq_735 nq_31 nq_736 (by decide +kernel) rfl rfl ⟨Nat.le_of_ble_eq_true rfl, Nat.le_of_ble_eq_true rfl, Nat.le_of_ble_eq_true rfl, Nat.le_of_ble_eq_true rfl⟩ (Nat.le_of_ble_eq_true rfl) dX8_which_36 (fun r36 σ36 h => ?_)
    exact ww_iret C hr hlk h dX8_which_39
  · skip
    by_cases hc1 : a1 = 1
    · refine ww_lookup (off := 39) (tgt := 40) C dX8_which_1 (by decide) (by rw [hc1]; rfl) (by decide) ?_
      have h := h.2.1 hc1
      refine ww_aload_n C 0 rfl dX8_which_40 ?_
      refine ww_getR C (shc_0 hs) rfl inG8 6 (by decide) nq_32 rfl dX8_which_41 ?_
      refine ww_aload_n C 0 rfl dX8_which_44 ?_
      refine ww_getR C (shc_0 hs) rfl inG8 1 (by decide) nq_20 rfl dX8_which_45 ?_
      refine ww_vi (n := 1) (As := [.ref 3]) (rest := []) C (c_X5_leastFitting hs (shr_3 hs) h) (shc_48 hs) rfl nq_744 nq_745 nq_746 nq_31 nq_747 (by decide +kernel) rfl rfl ⟨Nat.le_of_ble_eq_true rfl, Nat.le_of_ble_eq_true rfl, Nat.le_of_ble_eq_true rfl, Nat.le_of_ble_eq_true rfl⟩ (Nat.le_of_ble_eq_true rfl) dX8_which_48 (fun r48 σ48 h => ?_)
      exact ww_iret C hr hlk h dX8_which_51
    · skip
      refine ww_lookup (off := 51) (tgt := 52) C dX8_which_1 (by decide) (lk_none (List.forall_mem_cons.mpr ⟨ne_toInt (n := 0) hc0, (List.forall_mem_cons.mpr ⟨ne_toInt (n := 1) hc1, (fun _ h => absurd h List.not_mem_nil)⟩)⟩)) (by decide) ?_
      have h := h.2.2 ⟨hc0, hc1⟩
      refine ww_bipush (v := -2) C dX8_which_52 (by decide) ?_
      exact ww_iret C hr hlk h dX8_which_54
set_option maxRecDepth 100000 in
set_option maxHeartbeats 4000000 in
theorem w_X8_fraction_L9b {p : Program} {l : Launch} {e : Env} {s : State} {m : MethodId} {args : Array Value} {below : List Frame} {meth : Method} {c : Code} {dC : Nat → ClassId} {dI : Nat → Nat → Nat} {cA : Nat → ClassId} {A : Nat → Prop} {al : Nat → Nat} {sh : List Kd} (C : Fx p s m args c cX8_fraction 12 yX8_fraction.cls dC dI cA A al) (hr : meth.sig.returnType = some .int) (hlk : meth.locks = false) (hs : ShC sh) {a0 : Int64} {a2 : Int64} {a4 : Int32} {Q : Int32 → St → Prop} {K44 : St → Int64 → Prop} (hK44 : ∀ (σ : St) (x5 : Int64), K44 σ x5 → WW p l e (RM 0) s m args below meth c (MQ below (va_Qi Q (WPost dC dI cA al sh A) A) args s 0 0 A) dC dI cA A 12 0 0 al sh 44 [(0, .long a0), (2, .long a2), (4, .int a4), (5, .long x5)] [] σ) {Rc : St → Int64 → Int64 → Int32 → Prop} (hRc : ∀ (σ : St) (x5 : Int64) (x7 : Int64) (x9 : Int32), Rc σ x5 x7 x9 → WW p l e (RM 0) s m args below meth c (MQ below (va_Qi Q (WPost dC dI cA al sh A) A) args s 0 0 A) dC dI cA A 12 0 0 al sh 9 [(0, .long a0), (2, .long a2), (4, .int a4), (5, .long x5), (7, .long x7), (9, .int x9)] [] σ) {σ : St} {x5 : Int64} {x7 : Int64} {x9 : Int32} (h : m_X8_fraction_L9b a0 a2 a4 Q K44 Rc σ x5 x7 x9) : WW p l e (RM 0) s m args below meth c (MQ below (va_Qi Q (WPost dC dI cA al sh A) A) args s 0 0 A) dC dI cA A 12 0 0 al sh 9 [(0, .long a0), (2, .long a2), (4, .int a4), (5, .long x5), (7, .long x7), (9, .int x9)] [] σ := by
  unfold m_X8_fraction_L9b at h
  refine ww_iload C 5 rfl dX8_fraction_9 ?_
  refine ww_bipush (v := 100) C dX8_fraction_11 (by decide) ?_
  refine ww_icmp_ge (tgt := 44) C dX8_fraction_13 (by decide) (fun hc => ?_) (fun hc => ?_)
  · have h := h.1 hc
    refine ww_sub [0, 1, 2, 3] rfl ?_
    exact hK44 _ _ h
  · have h := h.2 hc
    refine ww_lload C 4 rfl dX8_fraction_16 ?_
    refine ww_lconst (v := 0) C dX8_fraction_18 (by decide) ?_
    refine ww_lcmp C dX8_fraction_19 ?_
    refine ww_if_eq (tgt := 44) C dX8_fraction_20 (by decide) (fun hc => ?_) (fun hc => ?_)
    · have h := h.1 hc
      refine ww_sub [0, 1, 2, 3] rfl ?_
      exact hK44 _ _ h
    · have h := h.2 hc
      refine ww_lload C 3 rfl dX8_fraction_23 ?_
      refine ww_lload C 4 rfl dX8_fraction_25 ?_
      refine ww_lrem C dX8_fraction_27 h.1 ?_
      have h := h.2
      refine ww_nmJ h (fun y28 h => ?_)
      refine ww_lstore (lv' := [(10, .long y28), (0, .long a0), (2, .long a2), (4, .int a4), (5, .long x5), (7, .long x7), (9, .int x9)]) C dX8_fraction_28 (by decide) rfl ?_
      refine ww_lload C 5 rfl dX8_fraction_30 ?_
      refine ww_lstore (lv' := [(5, .long x7), (10, .long y28), (0, .long a0), (2, .long a2), (4, .int a4), (7, .long x7), (9, .int x9)]) C dX8_fraction_32 (by decide) rfl ?_
      refine ww_lload C 1 rfl dX8_fraction_34 ?_
      refine ww_lstore (lv' := [(7, .long y28), (5, .long x7), (10, .long y28), (0, .long a0), (2, .long a2), (4, .int a4), (9, .int x9)]) C dX8_fraction_36 (by decide) rfl ?_
      refine ww_iinc (v := (x9 + 1)) (lv' := [(9, .int (x9 + 1)), (7, .long y28), (5, .long x7), (10, .long y28), (0, .long a0), (2, .long a2), (4, .int a4)]) C 6 rfl dX8_fraction_38 rfl (by decide) rfl ?_
      refine ww_goto (tgt := 9) C dX8_fraction_41 (by decide) ?_
      refine ww_sub [4, 5, 6, 2, 1, 0] rfl ?_
      exact hRc _ _ _ _ h
set_option maxRecDepth 100000 in
set_option maxHeartbeats 4000000 in
theorem w_X8_fraction_L9 {p : Program} {l : Launch} {e : Env} {s : State} {m : MethodId} {args : Array Value} {below : List Frame} {meth : Method} {c : Code} {dC : Nat → ClassId} {dI : Nat → Nat → Nat} {cA : Nat → ClassId} {A : Nat → Prop} {al : Nat → Nat} {sh : List Kd} (C : Fx p s m args c cX8_fraction 12 yX8_fraction.cls dC dI cA A al) (hr : meth.sig.returnType = some .int) (hlk : meth.locks = false) (hs : ShC sh) {a0 : Int64} {a2 : Int64} {a4 : Int32} {Q : Int32 → St → Prop} {K44 : St → Int64 → Prop} (hK44 : ∀ (σ : St) (x5 : Int64), K44 σ x5 → WW p l e (RM 0) s m args below meth c (MQ below (va_Qi Q (WPost dC dI cA al sh A) A) args s 0 0 A) dC dI cA A 12 0 0 al sh 44 [(0, .long a0), (2, .long a2), (4, .int a4), (5, .long x5)] [] σ) : ∀ (f : Nat) (σ : St) (x5 : Int64) (x7 : Int64) (x9 : Int32), m_X8_fraction_L9 a0 a2 a4 Q K44 f σ x5 x7 x9 → WW p l e (RM 0) s m args below meth c (MQ below (va_Qi Q (WPost dC dI cA al sh A) A) args s 0 0 A) dC dI cA A 12 0 0 al sh 9 [(0, .long a0), (2, .long a2), (4, .int a4), (5, .long x5), (7, .long x7), (9, .int x9)] [] σ := by
  intro f
  induction f with
  | zero => intro σ x5 x7 x9 h; exact False.elim h
  | succ f ih => intro σ x5 x7 x9 h; exact w_X8_fraction_L9b (Q := Q) (a0 := a0) (a2 := a2) (a4 := a4) C hr hlk hs hK44 ih h
set_option maxRecDepth 100000 in
set_option maxHeartbeats 4000000 in
theorem w_X8_fraction_J44 {p : Program} {l : Launch} {e : Env} {s : State} {m : MethodId} {args : Array Value} {below : List Frame} {meth : Method} {c : Code} {dC : Nat → ClassId} {dI : Nat → Nat → Nat} {cA : Nat → ClassId} {A : Nat → Prop} {al : Nat → Nat} {sh : List Kd} (C : Fx p s m args c cX8_fraction 12 yX8_fraction.cls dC dI cA A al) (hr : meth.sig.returnType = some .int) (hlk : meth.locks = false) (hs : ShC sh) {a0 : Int64} {a2 : Int64} {a4 : Int32} {Q : Int32 → St → Prop} {σ : St} {x5 : Int64} (h : m_X8_fraction_J44 a0 a2 a4 Q σ x5) : WW p l e (RM 0) s m args below meth c (MQ below (va_Qi Q (WPost dC dI cA al sh A) A) args s 0 0 A) dC dI cA A 12 0 0 al sh 44 [(0, .long a0), (2, .long a2), (4, .int a4), (5, .long x5)] [] σ := by
  unfold m_X8_fraction_J44 at h
  refine ww_lload C 3 rfl dX8_fraction_44 ?_
  refine ww_lconst (v := 0) C dX8_fraction_46 (by decide) ?_
  refine ww_lcmp C dX8_fraction_47 ?_
  refine ww_if_ne (tgt := 62) C dX8_fraction_48 (by decide) (fun hc => ?_) (fun hc => ?_)
  · have h := h.1 hc
    refine ww_iload C 2 rfl dX8_fraction_62 ?_
    refine ww_if_eq (tgt := 71) C dX8_fraction_64 (by decide) (fun hc => ?_) (fun hc => ?_)
    · have h := h.1 hc
      refine ww_lload_n C 1 rfl dX8_fraction_71 ?_
      refine ww_lload C 3 rfl dX8_fraction_72 ?_
      refine ww_ldiv C dX8_fraction_74 h.1 ?_
      have h := h.2
      refine ww_l2i C dX8_fraction_75 ?_
      exact ww_iret C hr hlk h dX8_fraction_76
    · have h := h.2 hc
      refine ww_lload_n C 0 rfl dX8_fraction_67 ?_
      refine ww_goto (tgt := 72) C dX8_fraction_68 (by decide) ?_
      refine ww_lload C 3 rfl dX8_fraction_72 ?_
      refine ww_ldiv C dX8_fraction_74 h.1 ?_
      have h := h.2
      refine ww_l2i C dX8_fraction_75 ?_
      exact ww_iret C hr hlk h dX8_fraction_76
  · have h := h.2 hc
    refine ww_iload C 2 rfl dX8_fraction_51 ?_
    refine ww_if_eq (tgt := 60) C dX8_fraction_53 (by decide) (fun hc => ?_) (fun hc => ?_)
    · have h := h.1 hc
      refine ww_iconst (v := 1) C dX8_fraction_60 (by decide) ?_
      exact ww_iret C hr hlk h dX8_fraction_61
    · have h := h.2 hc
      refine ww_iconst (v := 0) C dX8_fraction_56 (by decide) ?_
      refine ww_goto (tgt := 61) C dX8_fraction_57 (by decide) ?_
      exact ww_iret C hr hlk h dX8_fraction_61
set_option maxRecDepth 100000 in
set_option maxHeartbeats 4000000 in
theorem c_X8_fraction {l : Launch} {dC : Nat → ClassId} {dI : Nat → Nat → Nat} {cA : Nat → ClassId} {al : Nat → Nat} {sh : List Kd} (hs : ShC sh) {σ : St} {a0 : Int64} {a2 : Int64} {a4 : Int32} {Q : Int32 → St → Prop} (h : m_X8_fraction σ a0 a2 a4 Q) : ∀ sz, Met l yX8_fraction (wd yX8_fraction cX8_fraction 12 (some .int)) (RM 0) (va_Pc ([.long a0, .long a2, .int a4].map (cv al)) (WPre dC dI cA al sh σ sz)) (va_Qi Q (WPost dC dI cA al sh (AW al sh sz)) (AW al sh sz)) 0 0 (AW al sh sz) := by
  refine ww_met (Qc := fun A => va_Qi Q (WPost dC dI cA al sh A) A) (by decide +kernel) (Nat.le_of_ble_eq_true rfl) (fun p e s m args below meth c A C hr hlk => ?_)
  show WW p l e (RM 0) s m args below meth c (MQ below (va_Qi Q (WPost dC dI cA al sh A) A) args s 0 0 A) dC dI cA A 12 0 0 al sh 0 [(0, .long a0), (2, .long a2), (4, .int a4)] [] σ
  unfold m_X8_fraction at h
  refine ww_lload_n C 1 rfl dX8_fraction_0 ?_
  refine ww_lstore (lv' := [(5, .long a2), (0, .long a0), (2, .long a2), (4, .int a4)]) C dX8_fraction_1 (by decide) rfl ?_
  refine ww_lload_n C 1 rfl dX8_fraction_3 ?_
  refine ww_lstore (lv' := [(7, .long a0), (5, .long a2), (0, .long a0), (2, .long a2), (4, .int a4)]) C dX8_fraction_4 (by decide) rfl ?_
  refine ww_iconst (v := 0) C dX8_fraction_6 (by decide) ?_
  refine ww_istore (lv' := [(9, .int 0), (7, .long a0), (5, .long a2), (0, .long a0), (2, .long a2), (4, .int a4)]) C dX8_fraction_7 (by decide) rfl ?_
  refine ww_sub [3, 4, 5, 2, 1, 0] rfl ?_
  obtain ⟨f, h⟩ := h
  exact w_X8_fraction_L9 (Q := Q) (a0 := a0) (a2 := a2) (a4 := a4) C hr hlk hs (fun σ x5 h => by exact w_X8_fraction_J44 (Q := Q) (a0 := a0) (a2 := a2) (a4 := a4) C hr hlk hs h) f _ _ _ _ h
