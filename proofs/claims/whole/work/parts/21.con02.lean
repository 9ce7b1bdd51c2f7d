set_option maxRecDepth 100000 in
set_option maxHeartbeats 4000000 in
theorem w_X1_meetingBits_L4b {p : Program} {l : Launch} {e : Env} {s : State} {m : MethodId} {args : Array Value} {below : List Frame} {meth : Method} {c : Code} {dC : Nat → ClassId} {dI : Nat → Nat → Nat} {cA : Nat → ClassId} {A : Nat → Prop} {al : Nat → Nat} {sh : List Kd} (C : Fx p s m args c cX1_meetingBits 3 yX1_meetingBits.cls dC dI cA A al) (hr : meth.sig.returnType = some .int) (hlk : meth.locks = false) {b0 : Nat} (hb0 : isRow sh b0) {Q : Int32 → St → Prop} {K31 : St → Int32 → Prop} (hK31 : ∀ (σ : St) (x1 : Int32), K31 σ x1 → WW p l e (RM 4) s m args below meth c (MQ below (va_Qi Q (WPost dC dI cA al sh A) A) args s 0 0 A) dC dI cA A 3 0 0 al sh 31 [(1, .int x1)] [] σ) {Rc : St → Int32 → Int32 → Prop} (hRc : ∀ (σ : St) (x1 : Int32) (x2 : Int32), Rc σ x1 x2 → WW p l e (RM 4) s m args below meth c (MQ below (va_Qi Q (WPost dC dI cA al sh A) A) args s 0 0 A) dC dI cA A 3 0 0 al sh 4 [(0, .ref b0), (1, .int x1), (2, .int x2)] [] σ) {σ : St} {x1 : Int32} {x2 : Int32} (h : m_X1_meetingBits_L4b b0 Q K31 Rc σ x1 x2) : WW p l e (RM 4) s m args below meth c (MQ below (va_Qi Q (WPost dC dI cA al sh A) A) args s 0 0 A) dC dI cA A 3 0 0 al sh 4 [(0, .ref b0), (1, .int x1), (2, .int x2)] [] σ := by
  unfold m_X1_meetingBits_L4b at h
  refine ww_iload_n C 2 rfl dX1_meetingBits_4 ?_
  refine ww_iconst (v := 4) C dX1_meetingBits_5 (by decide) ?_
  refine ww_icmp_ge (tgt := 31) C dX1_meetingBits_6 (by decide) (fun hc => ?_) (fun hc => ?_)
  · have h := h.1 hc
    refine ww_sub [1] rfl ?_
    exact hK31 _ _ h
  · have h := h.2 hc
    refine ww_aload_n C 0 rfl dX1_meetingBits_9 ?_
    refine ww_iload_n C 2 rfl dX1_meetingBits_10 ?_
    refine ww_si (n := 2) (As := [.ref b0, .int x2]) (rest := []) C (c_X1_leastMeeting hb0 h) nq_875 nq_537 nq_438 nq_538 (by decide +kernel) rfl rfl ⟨Nat.le_of_ble_eq_true rfl, Nat.le_of_ble_eq_true rfl, Nat.le_of_ble_eq_true rfl, Nat.le_of_ble_eq_true rfl⟩ (Nat.le_of_ble_eq_true rfl) dX1_meetingBits_11 (fun r11 σ11 h => ?_)
    refine ww_bipush (v := -9) C dX1_meetingBits_14 (by decide) ?_
    refine ww_icmp_eq (tgt := 25) C dX1_meetingBits_16 (by decide) (fun hc => ?_) (fun hc => ?_)
    · have h := h.1 hc
      refine ww_iinc (v := (x2 + 1)) (lv' := [(2, .int (x2 + 1)), (0, .ref b0), (1, .int x1)]) C 2 rfl dX1_meetingBits_25 rfl (by decide) rfl ?_
      refine ww_goto (tgt := 4) C dX1_meetingBits_28 (by decide) ?_
      refine ww_sub [1, 2, 0] rfl ?_
      exact hRc _ _ _ h
    · have h := h.2 hc
      refine ww_iload_n C 1 rfl dX1_meetingBits_19 ?_
      refine ww_iconst (v := 1) C dX1_meetingBits_20 (by decide) ?_
      refine ww_iload_n C 2 rfl dX1_meetingBits_21 ?_
      refine ww_ishl C dX1_meetingBits_22 ?_
      refine ww_ior C dX1_meetingBits_23 ?_
      refine ww_nmI h (fun y24 h => ?_)
      refine ww_istore_n (lv' := [(1, .int y24), (0, .ref b0), (2, .int x2)]) C dX1_meetingBits_24 rfl (by decide) rfl ?_
      refine ww_iinc (v := (x2 + 1)) (lv' := [(2, .int (x2 + 1)), (1, .int y24), (0, .ref b0)]) C 2 rfl dX1_meetingBits_25 rfl (by decide) rfl ?_
      refine ww_goto (tgt := 4) C dX1_meetingBits_28 (by decide) ?_
      refine ww_sub [2, 1, 0] rfl ?_
      exact hRc _ _ _ h
set_option maxRecDepth 100000 in
set_option maxHeartbeats 4000000 in
theorem w_X1_meetingBits_L4 {p : Program} {l : Launch} {e : Env} {s : State} {m : MethodId} {args : Array Value} {below : List Frame} {meth : Method} {c : Code} {dC : Nat → ClassId} {dI : Nat → Nat → Nat} {cA : Nat → ClassId} {A : Nat → Prop} {al : Nat → Nat} {sh : List Kd} (C : Fx p s m args c cX1_meetingBits 3 yX1_meetingBits.cls dC dI cA A al) (hr : meth.sig.returnType = some .int) (hlk : meth.locks = false) {b0 : Nat} (hb0 : isRow sh b0) {Q : Int32 → St → Prop} {K31 : St → Int32 → Prop} (hK31 : ∀ (σ : St) (x1 : Int32), K31 σ x1 → WW p l e (RM 4) s m args below meth c (MQ below (va_Qi Q (WPost dC dI cA al sh A) A) args s 0 0 A) dC dI cA A 3 0 0 al sh 31 [(1, .int x1)] [] σ) : ∀ (f : Nat) (σ : St) (x1 : Int32) (x2 : Int32), m_X1_meetingBits_L4 b0 Q K31 f σ x1 x2 → WW p l e (RM 4) s m args below meth c (MQ below (va_Qi Q (WPost dC dI cA al sh A) A) args s 0 0 A) dC dI cA A 3 0 0 al sh 4 [(0, .ref b0), (1, .int x1), (2, .int x2)] [] σ := by
  intro f
  induction f with
  | zero => intro σ x1 x2 h; exact False.elim h
  | succ f ih => intro σ x1 x2 h; exact w_X1_meetingBits_L4b (Q := Q) C hr hlk hb0 hK31 ih h
set_option maxRecDepth 100000 in
set_option maxHeartbeats 4000000 in
theorem w_X1_meetingBits_J31 {p : Program} {l : Launch} {e : Env} {s : State} {m : MethodId} {args : Array Value} {below : List Frame} {meth : Method} {c : Code} {dC : Nat → ClassId} {dI : Nat → Nat → Nat} {cA : Nat → ClassId} {A : Nat → Prop} {al : Nat → Nat} {sh : List Kd} (C : Fx p s m args c cX1_meetingBits 3 yX1_meetingBits.cls dC dI cA A al) (hr : meth.sig.returnType = some .int) (hlk : meth.locks = false) {b0 : Nat} (hb0 : isRow sh b0) {Q : Int32 → St → Prop} {σ : St} {x1 : Int32} (h : m_X1_meetingBits_J31 b0 Q σ x1) : WW p l e (RM 4) s m args below meth c (MQ below (va_Qi Q (WPost dC dI cA al sh A) A) args s 0 0 A) dC dI cA A 3 0 0 al sh 31 [(1, .int x1)] [] σ := by
  unfold m_X1_meetingBits_J31 at h
  refine ww_iload_n C 0 rfl dX1_meetingBits_31 ?_
  exact ww_iret C hr hlk h dX1_meetingBits_32
set_option maxRecDepth 100000 in
set_option maxHeartbeats 4000000 in
theorem c_X1_meetingBits {l : Launch} {dC : Nat → ClassId} {dI : Nat → Nat → Nat} {cA : Nat → ClassId} {al : Nat → Nat} {sh : List Kd} {b0 : Nat} (hb0 : isRow sh b0) {σ : St} {Q : Int32 → St → Prop} (h : m_X1_meetingBits b0 σ Q) : ∀ sz, Met l yX1_meetingBits (wd yX1_meetingBits cX1_meetingBits 3 (some .int)) (RM 4) (va_Pc ([.ref b0].map (cv al)) (WPre dC dI cA al sh σ sz)) (va_Qi Q (WPost dC dI cA al sh (AW al sh sz)) (AW al sh sz)) 0 0 (AW al sh sz) := by
  refine ww_met (Qc := fun A => va_Qi Q (WPost dC dI cA al sh A) A) (by decide +kernel) (Nat.le_of_ble_eq_true rfl) (fun p e s m args below meth c A C hr hlk => ?_)
  show WW p l e (RM 4) s m args below meth c (MQ below (va_Qi Q (WPost dC dI cA al sh A) A) args s 0 0 A) dC dI cA A 3 0 0 al sh 0 [(0, .ref b0)] [] σ
  unfold m_X1_meetingBits at h
  refine ww_iconst (v := 0) C dX1_meetingBits_0 (by decide) ?_
  refine ww_istore_n (lv' := [(1, .int 0), (0, .ref b0)]) C dX1_meetingBits_1 rfl (by decide) rfl ?_
  refine ww_iconst (v := 0) C dX1_meetingBits_2 (by decide) ?_
  refine ww_istore_n (lv' := [(2, .int 0), (1, .int 0), (0, .ref b0)]) C dX1_meetingBits_3 rfl (by decide) rfl ?_
  refine ww_sub [2, 1, 0] rfl ?_
  obtain ⟨f, h⟩ := h
  exact w_X1_meetingBits_L4 (Q := Q) C hr hlk hb0 (fun σ x1 h => by exact w_X1_meetingBits_J31 (Q := Q) C hr hlk hb0 h) f _ _ _ h
set_option maxRecDepth 100000 in
set_option maxHeartbeats 4000000 in
theorem c_X2_ofFlagged {l : Launch} {dC : Nat → ClassId} {dI : Nat → Nat → Nat} {cA : Nat → ClassId} {al : Nat → Nat} {sh : List Kd} (hs : ShC sh) {σ : St} {Q : Int64 → St → Prop} (h : m_X2_ofFlagged σ Q) : ∀ sz, Met l yX2_ofFlagged (wd yX2_ofFlagged cX2_ofFlagged 1 (some .long)) (RM 0) (va_Pc ([.ref 58].map (cv al)) (WPre dC dI cA al sh σ sz)) (va_Ql Q (WPost dC dI cA al sh (AW al sh sz)) (AW al sh sz)) 0 0 (AW al sh sz) := by
  refine ww_met (Qc := fun A => va_Ql Q (WPost dC dI cA al sh A) A) (by decide +kernel) (Nat.le_of_ble_eq_true rfl) (fun p e s m args below meth c A C hr hlk => ?_)
  show WW p l e (RM 0) s m args below meth c (MQ below (va_Ql Q (WPost dC dI cA al sh A) A) args s 0 0 A) dC dI cA A 1 0 0 al sh 0 [(0, .ref 58)] [] σ
  unfold m_X2_ofFlagged at h
  refine ww_aload_n C 0 rfl dX2_ofFlagged_0 ?_
  refine ww_getR C (shc_58 hs) rfl inG2 1 (by decide) nq_114 rfl dX2_ofFlagged_1 ?_
  refine ww_bipush (v := 48) C dX2_ofFlagged_4 (by decide) ?_
  refine ww_lald C (shc_59 hs) (by unfold vp_in; decide) dX2_ofFlagged_6 ?_
  exact ww_lret C hr hlk h dX2_ofFlagged_7
set_option maxRecDepth 100000 in
set_option maxHeartbeats 4000000 in
theorem w_J7_fill_d0a16_L6b {p : Program} {l : Launch} {e : Env} {s : State} {m : MethodId} {args : Array Value} {below : List Frame} {meth : Method} {c : Code} {dC : Nat → ClassId} {dI : Nat → Nat → Nat} {cA : Nat → ClassId} {A : Nat → Prop} {al : Nat → Nat} {sh : List Kd} (C : Fx p s m args c cJ7_fill_d0a16 5 yJ7_fill_d0a16.cls dC dI cA A al) (hr : meth.sig.returnType = none) (hlk : meth.locks = false) {q0 : Nat} {n0 : Nat} (hq0 : sh[q0]? = some (.inl (1, n0, []))) {a1 : Int64} {Q : St → Prop} {x4 : Int32} {K22 : St → Prop} (hK22 : ∀ (σ : St), K22 σ → WW p l e (RM 0) s m args below meth c (MQ below (va_Qv Q (WPost dC dI cA al sh A) A) args s 0 0 A) dC dI cA A 5 0 0 al sh 22 [] [] σ) {Rc : St → Int32 → Prop} (hRc : ∀ (σ : St) (x3 : Int32), Rc σ x3 → WW p l e (RM 0) s m args below meth c (MQ below (va_Qv Q (WPost dC dI cA al sh A) A) args s 0 0 A) dC dI cA A 5 0 0 al sh 6 [(0, .ref q0), (1, .long a1), (3, .int x3), (4, .int x4)] [] σ) {σ : St} {x3 : Int32} (h : m_J7_fill_d0a16_L6b q0 n0 a1 Q x4 K22 Rc σ x3) : WW p l e (RM 0) s m args below meth c (MQ below (va_Qv Q (WPost dC dI cA al sh A) A) args s 0 0 A) dC dI cA A 5 0 0 al sh 6 [(0, .ref q0), (1, .long a1), (3, .int x3), (4, .int x4)] [] σ := by
  unfold m_J7_fill_d0a16_L6b at h
  refine ww_iload_n C 2 rfl dJ7_fill_d0a16_6 ?_
  refine ww_iload C 3 rfl dJ7_fill_d0a16_7 ?_
  refine ww_icmp_ge (tgt := 22) C dJ7_fill_d0a16_9 (by decide) (fun hc => ?_) (fun hc => ?_)
  · have h := h.1 hc
    refine ww_sub [] rfl ?_
    exact hK22 _ h
  · have h := h.2 hc
    refine ww_aload_n C 0 rfl dJ7_fill_d0a16_12 ?_
    refine ww_iload_n C 2 rfl dJ7_fill_d0a16_13 ?_
    refine ww_lload_n C 1 rfl dJ7_fill_d0a16_14 ?_
    refine ww_last C hq0 h.1 dJ7_fill_d0a16_15 h.2 (fun σ15 h => ?_)
    refine ww_iinc (v := (x3 + 1)) (lv' := [(3, .int (x3 + 1)), (0, .ref q0), (1, .long a1), (4, .int x4)]) C 2 rfl dJ7_fill_d0a16_16 rfl (by decide) rfl ?_
    refine ww_goto (tgt := 6) C dJ7_fill_d0a16_19 (by decide) ?_
    refine ww_sub [1, 2, 0, 3] rfl ?_
    exact hRc _ _ h
set_option maxRecDepth 100000 in
set_option maxHeartbeats 4000000 in
theorem w_J7_fill_d0a16_L6 {p : Program} {l : Launch} {e : Env} {s : State} {m : MethodId} {args : Array Value} {below : List Frame} {meth : Method} {c : Code} {dC : Nat → ClassId} {dI : Nat → Nat → Nat} {cA : Nat → ClassId} {A : Nat → Prop} {al : Nat → Nat} {sh : List Kd} (C : Fx p s m args c cJ7_fill_d0a16 5 yJ7_fill_d0a16.cls dC dI cA A al) (hr : meth.sig.returnType = none) (hlk : meth.locks = false) {q0 : Nat} {n0 : Nat} (hq0 : sh[q0]? = some (.inl (1, n0, []))) {a1 : Int64} {Q : St → Prop} {x4 : Int32} {K22 : St → Prop} (hK22 : ∀ (σ : St), K22 σ → WW p l e (RM 0) s m args below meth c (MQ below (va_Qv Q (WPost dC dI cA al sh A) A) args s 0 0 A) dC dI cA A 5 0 0 al sh 22 [] [] σ) : ∀ (f : Nat) (σ : St) (x3 : Int32), m_J7_fill_d0a16_L6 q0 n0 a1 Q x4 K22 f σ x3 → WW p l e (RM 0) s m args below meth c (MQ below (va_Qv Q (WPost dC dI cA al sh A) A) args s 0 0 A) dC dI cA A 5 0 0 al sh 6 [(0, .ref q0), (1, .long a1), (3, .int x3), (4, .int x4)] [] σ := by
  intro f
  induction f with
  | zero => intro σ x3 h; exact False.elim h
  | succ f ih => intro σ x3 h; exact w_J7_fill_d0a16_L6b (Q := Q) (a1 := a1) C hr hlk hq0 hK22 ih h
set_option maxRecDepth 100000 in
set_option maxHeartbeats 4000000 in
theorem w_J7_fill_d0a16_J22 {p : Program} {l : Launch} {e : Env} {s : State} {m : MethodId} {args : Array Value} {below : List Frame} {meth : Method} {c : Code} {dC : Nat → ClassId} {dI : Nat → Nat → Nat} {cA : Nat → ClassId} {A : Nat → Prop} {al : Nat → Nat} {sh : List Kd} (C : Fx p s m args c cJ7_fill_d0a16 5 yJ7_fill_d0a16.cls dC dI cA A al) (hr : meth.sig.returnType = none) (hlk : meth.locks = false) {q0 : Nat} {n0 : Nat} (hq0 : sh[q0]? = some (.inl (1, n0, []))) {a1 : Int64} {Q : St → Prop} {σ : St} (h : m_J7_fill_d0a16_J22 q0 n0 a1 Q σ) : WW p l e (RM 0) s m args below meth c (MQ below (va_Qv Q (WPost dC dI cA al sh A) A) args s 0 0 A) dC dI cA A 5 0 0 al sh 22 [] [] σ := by
  unfold m_J7_fill_d0a16_J22 at h
  exact ww_vret C hr hlk h dJ7_fill_d0a16_22
set_option maxRecDepth 100000 in
set_option maxHeartbeats 4000000 in
theorem c_J7_fill_d0a16 {l : Launch} {dC : Nat → ClassId} {dI : Nat → Nat → Nat} {cA : Nat → ClassId} {al : Nat → Nat} {sh : List Kd} {q0 : Nat} {n0 : Nat} (hq0 : sh[q0]? = some (.inl (1, n0, []))) {σ : St} {a1 : Int64} {Q : St → Prop} (h : m_J7_fill_d0a16 q0 n0 σ a1 Q) : ∀ sz, Met l yJ7_fill_d0a16 (wd yJ7_fill_d0a16 cJ7_fill_d0a16 5 none) (RM 0) (va_Pc ([.ref q0, .long a1].map (cv al)) (WPre dC dI cA al sh σ sz)) (va_Qv Q (WPost dC dI cA al sh (AW al sh sz)) (AW al sh sz)) 0 0 (AW al sh sz) := by
  refine ww_met (Qc := fun A => va_Qv Q (WPost dC dI cA al sh A) A) (by decide +kernel) (Nat.le_of_ble_eq_true rfl) (fun p e s m args below meth c A C hr hlk => ?_)
  show WW p l e (RM 0) s m args below meth c (MQ below (va_Qv Q (WPost dC dI cA al sh A) A) args s 0 0 A) dC dI cA A 5 0 0 al sh 0 [(0, .ref q0), (1, .long a1)] [] σ
  unfold m_J7_fill_d0a16 at h
  refine ww_iconst (v := 0) C dJ7_fill_d0a16_0 (by decide) ?_
  refine ww_istore_n (lv' := [(3, .int 0), (0, .ref q0), (1, .long a1)]) C dJ7_fill_d0a16_1 rfl (by decide) rfl ?_
  refine ww_aload_n C 1 rfl dJ7_fill_d0a16_2 ?_
  refine ww_alen C (by decide) hq0 dJ7_fill_d0a16_3 ?_
  refine ww_nmI h (fun y4 h => ?_)
  refine ww_istore (lv' := [(4, .int y4), (3, .int 0), (0, .ref q0), (1, .long a1)]) C dJ7_fill_d0a16_4 (by decide) rfl ?_
  refine ww_sub [2, 3, 1, 0] rfl ?_
  obtain ⟨f, h⟩ := h
  exact w_J7_fill_d0a16_L6 (Q := Q) (a1 := a1) C hr hlk hq0 (fun σ h => by exact w_J7_fill_d0a16_J22 (Q := Q) (a1 := a1) C hr hlk hq0 h) f _ _ h
set_option maxRecDepth 100000 in
set_option maxHeartbeats 4000000 in
theorem w_X2_spreadTouch_L11b {p : Program} {l : Launch} {e : Env} {s : State} {m : MethodId} {args : Array Value} {below : List Frame} {meth : Method} {c : Code} {dC : Nat → ClassId} {dI : Nat → Nat → Nat} {cA : Nat → ClassId} {A : Nat → Prop} {al : Nat → Nat} {sh : List Kd} (C : Fx p s m args c cX2_spreadTouch 6 yX2_spreadTouch.cls dC dI cA A al) (hr : meth.sig.returnType = none) (hlk : meth.locks = false) (hs : ShC sh) {b1 : Nat} (hb1 : isRow sh b1) {a2 : Int32} {a3 : Int32} {Q : St → Prop} {K93 : St → Prop} (hK93 : ∀ (σ : St), K93 σ → WW p l e (RM 2) s m args below meth c (MQ below (va_Qv Q (WPost dC dI cA al sh A) A) args s 0 0 A) dC dI cA A 6 0 0 al sh 93 [(0, .ref 58)] [] σ) {Rc : St → Int32 → Prop} (hRc : ∀ (σ : St) (x4 : Int32), Rc σ x4 → WW p l e (RM 2) s m args below meth c (MQ below (va_Qv Q (WPost dC dI cA al sh A) A) args s 0 0 A) dC dI cA A 6 0 0 al sh 11 [(0, .ref 58), (1, .ref b1), (2, .int a2), (3, .int a3), (4, .int x4)] [] σ) {σ : St} {x4 : Int32} (h : m_X2_spreadTouch_L11b b1 a2 a3 Q K93 Rc σ x4) : WW p l e (RM 2) s m args below meth c (MQ below (va_Qv Q (WPost dC dI cA al sh A) A) args s 0 0 A) dC dI cA A 6 0 0 al sh 11 [(0, .ref 58), (1, .ref b1), (2, .int a2), (3, .int a3), (4, .int x4)] [] σ := by
  unfold m_X2_spreadTouch_L11b at h
  refine ww_iload C 4 rfl dX2_spreadTouch_11 ?_
  refine ww_bipush (v := 64) C dX2_spreadTouch_13 (by decide) ?_
  refine ww_icmp_ge (tgt := 93) C dX2_spreadTouch_15 (by decide) (fun hc => ?_) (fun hc => ?_)
  · have h := h.1 hc
    refine ww_sub [0] rfl ?_
    exact hK93 _ h
  · have h := h.2 hc
    refine ww_aload_n C 0 rfl dX2_spreadTouch_18 ?_
    refine ww_getR C (shc_58 hs) rfl inG2 1 (by decide) nq_114 rfl dX2_spreadTouch_19 ?_
    refine ww_iload C 4 rfl dX2_spreadTouch_22 ?_
    refine ww_lald C (shc_59 hs) h.1 dX2_spreadTouch_24 ?_
    have h := h.2
    refine ww_lconst (v := 0) C dX2_spreadTouch_25 (by decide) ?_
    refine ww_lcmp C dX2_spreadTouch_26 ?_
    refine ww_if_eq (tgt := 87) C dX2_spreadTouch_27 (by decide) (fun hc => ?_) (fun hc => ?_)
    · have h := h.1 hc
      refine ww_iinc (v := (x4 + 1)) (lv' := [(4, .int (x4 + 1)), (0, .ref 58), (1, .ref b1), (2, .int a2), (3, .int a3)]) C 4 rfl dX2_spreadTouch_87 rfl (by decide) rfl ?_
      refine ww_goto (tgt := 11) C dX2_spreadTouch_90 (by decide) ?_
      refine ww_sub [1, 2, 3, 4, 0] rfl ?_
      exact hRc _ _ h
    · have h := h.2 hc
      refine ww_aload_n C 0 rfl dX2_spreadTouch_30 ?_
      refine ww_getR C (shc_58 hs) rfl inG2 2 (by decide) nq_115 rfl dX2_spreadTouch_31 ?_
      refine ww_iload C 4 rfl dX2_spreadTouch_34 ?_
      refine ww_dup2 C rfl rfl dX2_spreadTouch_36 ?_
      refine ww_lald C (shc_60 hs) h.1 dX2_spreadTouch_37 ?_
      have h := h.2
      refine ww_aload_n C 0 rfl dX2_spreadTouch_38 ?_
      refine ww_getR C (shc_58 hs) rfl inG2 1 (by decide) nq_114 rfl dX2_spreadTouch_39 ?_
      refine ww_iload C 4 rfl dX2_spreadTouch_42 ?_
      refine ww_lald C (shc_59 hs) h.1 dX2_spreadTouch_44 ?_
      have h := h.2
      refine ww_iload_n C 3 rfl dX2_spreadTouch_45 ?_
      refine ww_i2l C dX2_spreadTouch_46 ?_
      refine ww_lmul C dX2_spreadTouch_47 ?_
      refine ww_ladd C dX2_spreadTouch_48 ?_
      refine ww_last C (shc_60 hs) h.1 dX2_spreadTouch_49 h.2 (fun σ49 h => ?_)
      refine ww_iload C 4 rfl dX2_spreadTouch_50 ?_
      refine ww_aload_n C 1 rfl dX2_spreadTouch_52 ?_
      refine ww_iload_n C 2 rfl dX2_spreadTouch_53 ?_
      refine ww_bipush (v := 15) C dX2_spreadTouch_54 (by decide) ?_
      refine ww_si (n := 4) (As := [.int x4, .ref b1, .int a2, .int 15]) (rest := []) C (c_X1_touch hb1 h) nq_810 nq_449 nq_438 nq_450 (by decide +kernel) rfl rfl ⟨Nat.le_of_ble_eq_true rfl, Nat.le_of_ble_eq_true rfl, Nat.le_of_ble_eq_true rfl, Nat.le_of_ble_eq_true rfl⟩ (Nat.le_of_ble_eq_true rfl) dX2_spreadTouch_56 (fun r56 σ56 h => ?_)
      refine ww_istore (lv' := [(5, .int r56), (0, .ref 58), (1, .ref b1), (2, .int a2), (3, .int a3), (4, .int x4)]) C dX2_spreadTouch_59 (by decide) rfl ?_
      refine ww_aload_n C 1 rfl dX2_spreadTouch_61 ?_
      refine ww_getR C (shc_58 hs) rfl inG2 2 (by decide) nq_115 rfl dX2_spreadTouch_62 ?_
      refine ww_iload C 0 rfl dX2_spreadTouch_65 ?_
      refine ww_bipush (v := 63) C dX2_spreadTouch_67 (by decide) ?_
      refine ww_iand C dX2_spreadTouch_69 ?_
      refine ww_dup2 C rfl rfl dX2_spreadTouch_70 ?_
      refine ww_lald C (shc_60 hs) h.1 dX2_spreadTouch_71 ?_
      have h := h.2
      refine ww_aload_n C 1 rfl dX2_spreadTouch_72 ?_
      refine ww_getR C (shc_58 hs) rfl inG2 1 (by decide) nq_114 rfl dX2_spreadTouch_73 ?_
      refine ww_iload C 5 rfl dX2_spreadTouch_76 ?_
      refine ww_lald C (shc_59 hs) h.1 dX2_spreadTouch_78 ?_
      have h := h.2
      refine ww_bipush (v := 10) C dX2_spreadTouch_79 (by decide) ?_
      refine ww_iload_n C 4 rfl dX2_spreadTouch_81 ?_
      refine ww_isub C dX2_spreadTouch_82 ?_
      refine ww_i2l C dX2_spreadTouch_83 ?_
      refine ww_lmul C dX2_spreadTouch_84 ?_
      refine ww_ladd C dX2_spreadTouch_85 ?_
      refine ww_last C (shc_60 hs) h.1 dX2_spreadTouch_86 h.2 (fun σ86 h => ?_)
      refine ww_iinc (v := (x4 + 1)) (lv' := [(4, .int (x4 + 1)), (5, .int r56), (0, .ref 58), (1, .ref b1), (2, .int a2), (3, .int a3)]) C 5 rfl dX2_spreadTouch_87 rfl (by decide) rfl ?_
      refine ww_goto (tgt := 11) C dX2_spreadTouch_90 (by decide) ?_
      refine ww_sub [2, 3, 4, 5, 0] rfl ?_
      exact hRc _ _ h
set_option maxRecDepth 100000 in
set_option maxHeartbeats 4000000 in
theorem w_X2_spreadTouch_L11 {p : Program} {l : Launch} {e : Env} {s : State} {m : MethodId} {args : Array Value} {below : List Frame} {meth : Method} {c : Code} {dC : Nat → ClassId} {dI : Nat → Nat → Nat} {cA : Nat → ClassId} {A : Nat → Prop} {al : Nat → Nat} {sh : List Kd} (C : Fx p s m args c cX2_spreadTouch 6 yX2_spreadTouch.cls dC dI cA A al) (hr : meth.sig.returnType = none) (hlk : meth.locks = false) (hs : ShC sh) {b1 : Nat} (hb1 : isRow sh b1) {a2 : Int32} {a3 : Int32} {Q : St → Prop} {K93 : St → Prop} (hK93 : ∀ (σ : St), K93 σ → WW p l e (RM 2) s m args below meth c (MQ below (va_Qv Q (WPost dC dI cA al sh A) A) args s 0 0 A) dC dI cA A 6 0 0 al sh 93 [(0, .ref 58)] [] σ) : ∀ (f : Nat) (σ : St) (x4 : Int32), m_X2_spreadTouch_L11 b1 a2 a3 Q K93 f σ x4 → WW p l e (RM 2) s m args below meth c (MQ below (va_Qv Q (WPost dC dI cA al sh A) A) args s 0 0 A) dC dI cA A 6 0 0 al sh 11 [(0, .ref 58), (1, .ref b1), (2, .int a2), (3, .int a3), (4, .int x4)] [] σ := by
  intro f
  induction f with
  | zero => intro σ x4 h; exact False.elim h
  | succ f ih => intro σ x4 h; exact w_X2_spreadTouch_L11b (Q := Q) (a2 := a2) (a3 := a3) C hr hlk hs hb1 hK93 ih h
set_option maxRecDepth 100000 in
set_option maxHeartbeats 4000000 in
theorem w_X2_spreadTouch_J93 {p : Program} {l : Launch} {e : Env} {s : State} {m : MethodId} {args : Array Value} {below : List Frame} {meth : Method} {c : Code} {dC : Nat → ClassId} {dI : Nat → Nat → Nat} {cA : Nat → ClassId} {A : Nat → Prop} {al : Nat → Nat} {sh : List Kd} (C : Fx p s m args c cX2_spreadTouch 6 yX2_spreadTouch.cls dC dI cA A al) (hr : meth.sig.returnType = none) (hlk : meth.locks = false) (hs : ShC sh) {b1 : Nat} (hb1 : isRow sh b1) {a2 : Int32} {a3 : Int32} {Q : St → Prop} {σ : St} (h : m_X2_spreadTouch_J93 b1 a2 a3 Q σ) : WW p l e (RM 2) s m args below meth c (MQ below (va_Qv Q (WPost dC dI cA al sh A) A) args s 0 0 A) dC dI cA A 6 0 0 al sh 93 [(0, .ref 58)] [] σ := by
  unfold m_X2_spreadTouch_J93 at h
  refine ww_aload_n C 0 rfl dX2_spreadTouch_93 ?_
  refine ww_getR C (shc_58 hs) rfl inG2 2 (by decide) nq_115 rfl dX2_spreadTouch_94 ?_
  refine ww_iconst (v := 0) C dX2_spreadTouch_97 (by decide) ?_
  refine ww_aload_n C 0 rfl dX2_spreadTouch_98 ?_
  refine ww_getR C (shc_58 hs) rfl inG2 1 (by decide) nq_114 rfl dX2_spreadTouch_99 ?_
  refine ww_iconst (v := 0) C dX2_spreadTouch_102 (by decide) ?_
  refine ww_bipush (v := 64) C dX2_spreadTouch_103 (by decide) ?_
  refine ww_copyl C (shc_60 hs) (shc_59 hs) nq_806 nq_807 nq_808 nq_809 (by decide) (by decide) (by decide) (by decide) (by decide) (by decide) dX2_spreadTouch_105 h (fun σ105 h => ?_)
  exact ww_vret C hr hlk h dX2_spreadTouch_108
set_option maxRecDepth 100000 in
set_option maxHeartbeats 4000000 in
theorem c_X2_spreadTouch {l : Launch} {dC : Nat → ClassId} {dI : Nat → Nat → Nat} {cA : Nat → ClassId} {al : Nat → Nat} {sh : List Kd} (hs : ShC sh) {b1 : Nat} (hb1 : isRow sh b1) {σ : St} {a2 : Int32} {a3 : Int32} {Q : St → Prop} (h : m_X2_spreadTouch b1 σ a2 a3 Q) : ∀ sz, Met l yX2_spreadTouch (wd yX2_spreadTouch cX2_spreadTouch 6 none) (RM 2) (va_Pc ([.ref 58, .ref b1, .int a2, .int a3].map (cv al)) (WPre dC dI cA al sh σ sz)) (va_Qv Q (WPost dC dI cA al sh (AW al sh sz)) (AW al sh sz)) 0 0 (AW al sh sz) := by
  refine ww_met (Qc := fun A => va_Qv Q (WPost dC dI cA al sh A) A) (by decide +kernel) (Nat.le_of_ble_eq_true rfl) (fun p e s m args below meth c A C hr hlk => ?_)
  show WW p l e (RM 2) s m args below meth c (MQ below (va_Qv Q (WPost dC dI cA al sh A) A) args s 0 0 A) dC dI cA A 6 0 0 al sh 0 [(0, .ref 58), (1, .ref b1), (2, .int a2), (3, .int a3)] [] σ
  unfold m_X2_spreadTouch at h
  refine ww_aload_n C 0 rfl dX2_spreadTouch_0 ?_
  refine ww_getR C (shc_58 hs) rfl inG2 2 (by decide) nq_115 rfl dX2_spreadTouch_1 ?_
  refine ww_lconst (v := 0) C dX2_spreadTouch_4 (by decide) ?_
  refine ww_sv (n := 2) (As := [.ref 60, .long 0]) (rest := []) C (c_J7_fill_d0a16 (shc_60 hs) h) nq_798 nq_799 nq_76 nq_800 (by decide +kernel) rfl rfl ⟨Nat.le_of_ble_eq_true rfl, Nat.le_of_ble_eq_true rfl, Nat.le_of_ble_eq_true rfl, Nat.le_of_ble_eq_true rfl⟩ (Nat.le_of_ble_eq_true rfl) dX2_spreadTouch_5 (fun σ5 h => ?_)
  refine ww_iconst (v := 0) C dX2_spreadTouch_8 (by decide) ?_
  refine ww_istore (lv' := [(4, .int 0), (0, .ref 58), (1, .ref b1), (2, .int a2), (3, .int a3)]) C dX2_spreadTouch_9 (by decide) rfl ?_
  refine ww_sub [1, 2, 3, 4, 0] rfl ?_
  obtain ⟨f, h⟩ := h
  exact w_X2_spreadTouch_L11 (Q := Q) (a2 := a2) (a3 := a3) C hr hlk hs hb1 (fun σ h => by exact w_X2_spreadTouch_J93 (Q := Q) (a2 := a2) (a3 := a3) C hr hlk hs hb1 h) f _ _ h
set_option maxRecDepth 100000 in
set_option maxHeartbeats 4000000 in
theorem w_X2_spread_L23b {p : Program} {l : Launch} {e : Env} {s : State} {m : MethodId} {args : Array Value} {below : List Frame} {meth : Method} {c : Code} {dC : Nat → ClassId} {dI : Nat → Nat → Nat} {cA : Nat → ClassId} {A : Nat → Prop} {al : Nat → Nat} {sh : List Kd} (C : Fx p s m args c cX2_spread 5 yX2_spread.cls dC dI cA A al) (hr : meth.sig.returnType = none) (hlk : meth.locks = false) (hs : ShC sh) {b1 : Nat} (hb1 : isRow sh b1) {a2 : Int32} {a3 : Int32} {Q : St → Prop} {K68 : St → Prop} (hK68 : ∀ (σ : St), K68 σ → WW p l e (RM 3) s m args below meth c (MQ below (va_Qv Q (WPost dC dI cA al sh A) A) args s 0 0 A) dC dI cA A 5 0 0 al sh 68 [] [] σ) {Rc : St → Int32 → Prop} (hRc : ∀ (σ : St) (x4 : Int32), Rc σ x4 → WW p l e (RM 3) s m args below meth c (MQ below (va_Qv Q (WPost dC dI cA al sh A) A) args s 0 0 A) dC dI cA A 5 0 0 al sh 23 [(0, .ref 58), (1, .ref b1), (2, .int a2), (3, .int a3), (4, .int x4)] [] σ) {σ : St} {x4 : Int32} (h : m_X2_spread_L23b b1 a2 a3 Q K68 Rc σ x4) : WW p l e (RM 3) s m args below meth c (MQ below (va_Qv Q (WPost dC dI cA al sh A) A) args s 0 0 A) dC dI cA A 5 0 0 al sh 23 [(0, .ref 58), (1, .ref b1), (2, .int a2), (3, .int a3), (4, .int x4)] [] σ := by
  unfold m_X2_spread_L23b at h
  refine ww_iload C 4 rfl dX2_spread_23 ?_
  refine ww_aload_n C 1 rfl dX2_spread_25 ?_
  refine ww_getIN C (row_o hb1) rfl inG4 0 (by decide) (List.mem_of_getElem? (i := 16) rfl) rfl dX2_spread_26 ?_
  refine ww_icmp_ge (tgt := 68) C dX2_spread_29 (by decide) (fun hc => ?_) (fun hc => ?_)
  · have h := h.1 hc
    refine ww_sub [] rfl ?_
    exact hK68 _ h
  · have h := h.2 hc
    refine ww_aload_n C 1 rfl dX2_spread_32 ?_
    refine ww_iload C 4 rfl dX2_spread_33 ?_
    refine ww_iload_n C 2 rfl dX2_spread_35 ?_
    refine ww_vi (n := 2) (As := [.int x4, .int a2]) (rest := []) C (c_X4_touchesAt hb1 h) (row_o hb1) rfl nq_801 nq_441 nq_442 nq_19 nq_443 (by decide +kernel) rfl rfl ⟨Nat.le_of_ble_eq_true rfl, Nat.le_of_ble_eq_true rfl, Nat.le_of_ble_eq_true rfl, Nat.le_of_ble_eq_true rfl⟩ (Nat.le_of_ble_eq_true rfl) dX2_spread_36 (fun r36 σ36 h => ?_)
    refine ww_if_eq (tgt := 62) C dX2_spread_39 (by decide) (fun hc => ?_) (fun hc => ?_)
    · have h := h.1 hc
      refine ww_iinc (v := (x4 + 1)) (lv' := [(4, .int (x4 + 1)), (0, .ref 58), (1, .ref b1), (2, .int a2), (3, .int a3)]) C 4 rfl dX2_spread_62 rfl (by decide) rfl ?_
      refine ww_goto (tgt := 23) C dX2_spread_65 (by decide) ?_
      refine ww_sub [1, 2, 3, 4, 0] rfl ?_
      exact hRc _ _ h
    · have h := h.2 hc
      refine ww_aload_n C 0 rfl dX2_spread_42 ?_
      refine ww_aload_n C 1 rfl dX2_spread_43 ?_
      refine ww_iload C 4 rfl dX2_spread_44 ?_
      refine ww_iload_n C 3 rfl dX2_spread_46 ?_
      refine ww_vv (n := 3) (As := [.ref b1, .int x4, .int a3]) (rest := []) C (c_X2_spreadTouch hs hb1 h) (shc_58 hs) rfl nq_802 nq_803 nq_804 nq_39 nq_805 (by decide +kernel) rfl rfl ⟨Nat.le_of_ble_eq_true rfl, Nat.le_of_ble_eq_true rfl, Nat.le_of_ble_eq_true rfl, Nat.le_of_ble_eq_true rfl⟩ (Nat.le_of_ble_eq_true rfl) dX2_spread_47 (fun σ47 h => ?_)
      refine ww_aload_n C 0 rfl dX2_spread_50 ?_
      refine ww_dup C rfl dX2_spread_51 ?_
      refine ww_getL C (shc_58 hs) rfl inG2 0 (by decide) nq_116 rfl dX2_spread_52 ?_
      refine ww_ldc2 (v := 10) C nq_797 dX2_spread_55 ?_
      refine ww_lmul C dX2_spread_58 ?_
      refine ww_putL C (shc_58 hs) rfl inG2 0 (by decide) nq_116 tyX2 tyX2_ok nmX2 rfl (by decide +kernel) rfl dX2_spread_59 h (fun σ59 h => ?_)
      refine ww_iinc (v := (x4 + 1)) (lv' := [(4, .int (x4 + 1)), (0, .ref 58), (1, .ref b1), (2, .int a2), (3, .int a3)]) C 4 rfl dX2_spread_62 rfl (by decide) rfl ?_
      refine ww_goto (tgt := 23) C dX2_spread_65 (by decide) ?_
      refine ww_sub [1, 2, 3, 4, 0] rfl ?_
      exact hRc _ _ h
set_option maxRecDepth 100000 in
set_option maxHeartbeats 4000000 in
theorem w_X2_spread_L23 {p : Program} {l : Launch} {e : Env} {s : State} {m : MethodId} {args : Array Value} {below : List Frame} {meth : Method} {c : Code} {dC : Nat → ClassId} {dI : Nat → Nat → Nat} {cA : Nat → ClassId} {A : Nat → Prop} {al : Nat → Nat} {sh : List Kd} (C : Fx p s m args c cX2_spread 5 yX2_spread.cls dC dI cA A al) (hr : meth.sig.returnType = none) (hlk : meth.locks = false) (hs : ShC sh) {b1 : Nat} (hb1 : isRow sh b1) {a2 : Int32} {a3 : Int32} {Q : St → Prop} {K68 : St → Prop} (hK68 : ∀ (σ : St), K68 σ → WW p l e (RM 3) s m args below meth c (MQ below (va_Qv Q (WPost dC dI cA al sh A) A) args s 0 0 A) dC dI cA A 5 0 0 al sh 68 [] [] σ) : ∀ (f : Nat) (σ : St) (x4 : Int32), m_X2_spread_L23 b1 a2 a3 Q K68 f σ x4 → WW p l e (RM 3) s m args below meth c (MQ below (va_Qv Q (WPost dC dI cA al sh A) A) args s 0 0 A) dC dI cA A 5 0 0 al sh 23 [(0, .ref 58), (1, .ref b1), (2, .int a2), (3, .int a3), (4, .int x4)] [] σ := by
  intro f
  induction f with
  | zero => intro σ x4 h; exact False.elim h
  | succ f ih => intro σ x4 h; exact w_X2_spread_L23b (Q := Q) (a2 := a2) (a3 := a3) C hr hlk hs hb1 hK68 ih h
set_option maxRecDepth 100000 in
set_option maxHeartbeats 4000000 in
theorem w_X2_spread_J68 {p : Program} {l : Launch} {e : Env} {s : State} {m : MethodId} {args : Array Value} {below : List Frame} {meth : Method} {c : Code} {dC : Nat → ClassId} {dI : Nat → Nat → Nat} {cA : Nat → ClassId} {A : Nat → Prop} {al : Nat → Nat} {sh : List Kd} (C : Fx p s m args c cX2_spread 5 yX2_spread.cls dC dI cA A al) (hr : meth.sig.returnType = none) (hlk : meth.locks = false) (hs : ShC sh) {b1 : Nat} (hb1 : isRow sh b1) {a2 : Int32} {a3 : Int32} {Q : St → Prop} {σ : St} (h : m_X2_spread_J68 b1 a2 a3 Q σ) : WW p l e (RM 3) s m args below meth c (MQ below (va_Qv Q (WPost dC dI cA al sh A) A) args s 0 0 A) dC dI cA A 5 0 0 al sh 68 [] [] σ := by
  unfold m_X2_spread_J68 at h
  exact ww_vret C hr hlk h dX2_spread_68
set_option maxRecDepth 100000 in
set_option maxHeartbeats 4000000 in
theorem c_X2_spread {l : Launch} {dC : Nat → ClassId} {dI : Nat → Nat → Nat} {cA : Nat → ClassId} {al : Nat → Nat} {sh : List Kd} (hs : ShC sh) {b1 : Nat} (hb1 : isRow sh b1) {σ : St} {a2 : Int32} {a3 : Int32} {Q : St → Prop} (h : m_X2_spread b1 σ a2 a3 Q) : ∀ sz, Met l yX2_spread (wd yX2_spread cX2_spread 5 none) (RM 3) (va_Pc ([.ref 58, .ref b1, .int a2, .int a3].map (cv al)) (WPre dC dI cA al sh σ sz)) (va_Qv Q (WPost dC dI cA al sh (AW al sh sz)) (AW al sh sz)) 0 0 (AW al sh sz) := by
  refine ww_met (Qc := fun A => va_Qv Q (WPost dC dI cA al sh A) A) (by decide +kernel) (Nat.le_of_ble_eq_true rfl) (fun p e s m args below meth c A C hr hlk => ?_)
  show WW p l e (RM 3) s m args below meth c (MQ below (va_Qv Q (WPost dC dI cA al sh A) A) args s 0 0 A) dC dI cA A 5 0 0 al sh 0 [(0, .ref 58), (1, .ref b1), (2, .int a2), (3, .int a3)] [] σ
  unfold m_X2_spread at h
  refine ww_aload_n C 0 rfl dX2_spread_0 ?_
  refine ww_getR C (shc_58 hs) rfl inG2 1 (by decide) nq_114 rfl dX2_spread_1 ?_
  refine ww_lconst (v := 0) C dX2_spread_4 (by decide) ?_
  refine ww_sv (n := 2) (As := [.ref 59, .long 0]) (rest := []) C (c_J7_fill_d0a16 (shc_59 hs) h) nq_798 nq_799 nq_76 nq_800 (by decide +kernel) rfl rfl ⟨Nat.le_of_ble_eq_true rfl, Nat.le_of_ble_eq_true rfl, Nat.le_of_ble_eq_true rfl, Nat.le_of_ble_eq_true rfl⟩ (Nat.le_of_ble_eq_true rfl) dX2_spread_5 (fun σ5 h => ?_)
  refine ww_aload_n C 0 rfl dX2_spread_8 ?_
  refine ww_getR C (shc_58 hs) rfl inG2 1 (by decide) nq_114 rfl dX2_spread_9 ?_
  refine ww_iconst (v := 0) C dX2_spread_12 (by decide) ?_
  refine ww_lconst (v := 1) C dX2_spread_13 (by decide) ?_
  refine ww_last C (shc_59 hs) h.1 dX2_spread_14 h.2 (fun σ14 h => ?_)
  refine ww_aload_n C 0 rfl dX2_spread_15 ?_
  refine ww_lconst (v := 1) C dX2_spread_16 (by decide) ?_
  refine ww_putL C (shc_58 hs) rfl inG2 0 (by decide) nq_116 tyX2 tyX2_ok nmX2 rfl (by decide +kernel) rfl dX2_spread_17 h (fun σ17 h => ?_)
  refine ww_iconst (v := 0) C dX2_spread_20 (by decide) ?_
  refine ww_istore (lv' := [(4, .int 0), (0, .ref 58), (1, .ref b1), (2, .int a2), (3, .int a3)]) C dX2_spread_21 (by decide) rfl ?_
  refine ww_sub [1, 2, 3, 4, 0] rfl ?_
  obtain ⟨f, h⟩ := h
  exact w_X2_spread_L23 (Q := Q) (a2 := a2) (a3 := a3) C hr hlk hs hb1 (fun σ h => by exact w_X2_spread_J68 (Q := Q) (a2 := a2) (a3 := a3) C hr hlk hs hb1 h) f _ _ h
set_option maxRecDepth 100000 in
set_option maxHeartbeats 4000000 in
theorem c_X4_aboutAt {l : Launch} {dC : Nat → ClassId} {dI : Nat → Nat → Nat} {cA : Nat → ClassId} {al : Nat → Nat} {sh : List Kd} {b0 : Nat} (hb0 : isRow sh b0) {σ : St} {a1 : Int32} {Q : Int32 → St → Prop} (h : m_X4_aboutAt b0 σ a1 Q) : ∀ sz, Met l yX4_aboutAt (wd yX4_aboutAt cX4_aboutAt 2 (some .int)) (RM 0) (va_Pc ([.ref b0, .int a1].map (cv al)) (WPre dC dI cA al sh σ sz)) (va_Qi Q (WPost dC dI cA al sh (AW al sh sz)) (AW al sh sz)) 0 0 (AW al sh sz) := by
  refine ww_met (Qc := fun A => va_Qi Q (WPost dC dI cA al sh A) A) (by decide +kernel) (Nat.le_of_ble_eq_true rfl) (fun p e s m args below meth c A C hr hlk => ?_)
  show WW p l e (RM 0) s m args below meth c (MQ below (va_Qi Q (WPost dC dI cA al sh A) A) args s 0 0 A) dC dI cA A 2 0 0 al sh 0 [(0, .ref b0), (1, .int a1)] [] σ
  unfold m_X4_aboutAt at h
  refine ww_aload_n C 0 rfl dX4_aboutAt_0 ?_
  refine ww_getR C (row_o hb0) rfl inG4 1 (by decide) nq_52 rfl dX4_aboutAt_1 ?_
  refine ww_iload_n C 1 rfl dX4_aboutAt_4 ?_
  refine ww_iald C (row_1 hb0) h.1 dX4_aboutAt_5 ?_
  have h := h.2
  refine ww_iconst (v := 3) C dX4_aboutAt_6 (by decide) ?_
  refine ww_iand C dX4_aboutAt_7 ?_
  exact ww_iret C hr hlk h dX4_aboutAt_8
set_option maxRecDepth 100000 in
set_option maxHeartbeats 4000000 in
theorem c_X4_heldAt {l : Launch} {dC : Nat → ClassId} {dI : Nat → Nat → Nat} {cA : Nat → ClassId} {al : Nat → Nat} {sh : List Kd} {b0 : Nat} (hb0 : isRow sh b0) {σ : St} {a1 : Int32} {Q : Int32 → St → Prop} (h : m_X4_heldAt b0 σ a1 Q) : ∀ sz, Met l yX4_heldAt (wd yX4_heldAt cX4_heldAt 2 (some .int)) (RM 0) (va_Pc ([.ref b0, .int a1].map (cv al)) (WPre dC dI cA al sh σ sz)) (va_Qi Q (WPost dC dI cA al sh (AW al sh sz)) (AW al sh sz)) 0 0 (AW al sh sz) := by
  refine ww_met (Qc := fun A => va_Qi Q (WPost dC dI cA al sh A) A) (by decide +kernel) (Nat.le_of_ble_eq_true rfl) (fun p e s m args below meth c A C hr hlk => ?_)
  show WW p l e (RM 0) s m args below meth c (MQ below (va_Qi Q (WPost dC dI cA al sh A) A) args s 0 0 A) dC dI cA A 2 0 0 al sh 0 [(0, .ref b0), (1, .int a1)] [] σ
  unfold m_X4_heldAt at h
  refine ww_aload_n C 0 rfl dX4_heldAt_0 ?_
  refine ww_getR C (row_o hb0) rfl inG4 2 (by decide) nq_53 rfl dX4_heldAt_1 ?_
  refine ww_iload_n C 1 rfl dX4_heldAt_4 ?_
  refine ww_iald C (row_2 hb0) h.1 dX4_heldAt_5 ?_
  have h := h.2
  refine ww_aload_n C 0 rfl dX4_heldAt_6 ?_
  refine ww_getR C (row_o hb0) rfl inG4 3 (by decide) nq_54 rfl dX4_heldAt_7 ?_
  refine ww_iload_n C 1 rfl dX4_heldAt_10 ?_
  refine ww_iald C (row_3 hb0) h.1 dX4_heldAt_11 ?_
  have h := h.2
  refine ww_ior C dX4_heldAt_12 ?_
  exact ww_iret C hr hlk h dX4_heldAt_13
set_option maxRecDepth 100000 in
set_option maxHeartbeats 4000000 in
theorem c_X4_takesAt {l : Launch} {dC : Nat → ClassId} {dI : Nat → Nat → Nat} {cA : Nat → ClassId} {al : Nat → Nat} {sh : List Kd} {b0 : Nat} (hb0 : isRow sh b0) {σ : St} {a1 : Int32} {Q : Int32 → St → Prop} (h : m_X4_takesAt b0 σ a1 Q) : ∀ sz, Met l yX4_takesAt (wd yX4_takesAt cX4_takesAt 3 (some .boolean)) (RM 0) (va_Pc ([.ref b0, .int a1].map (cv al)) (WPre dC dI cA al sh σ sz)) (va_Qi Q (WPost dC dI cA al sh (AW al sh sz)) (AW al sh sz)) 0 0 (AW al sh sz) := by
  refine ww_met (Qc := fun A => va_Qi Q (WPost dC dI cA al sh A) A) (by decide +kernel) (Nat.le_of_ble_eq_true rfl) (fun p e s m args below meth c A C hr hlk => ?_)
  show WW p l e (RM 0) s m args below meth c (MQ below (va_Qi Q (WPost dC dI cA al sh A) A) args s 0 0 A) dC dI cA A 3 0 0 al sh 0 [(0, .ref b0), (1, .int a1)] [] σ
  unfold m_X4_takesAt at h
  refine ww_aload_n C 0 rfl dX4_takesAt_0 ?_
  refine ww_getR C (row_o hb0) rfl inG4 1 (by decide) nq_52 rfl dX4_takesAt_1 ?_
  refine ww_iload_n C 1 rfl dX4_takesAt_4 ?_
  refine ww_iald C (row_1 hb0) h.1 dX4_takesAt_5 ?_
  have h := h.2
  refine ww_iconst (v := 4) C dX4_takesAt_6 (by decide) ?_
  refine ww_ishr C dX4_takesAt_7 ?_
  refine ww_nmI h (fun y8 h => ?_)
  refine ww_istore_n (lv' := [(2, .int y8), (0, .ref b0), (1, .int a1)]) C dX4_takesAt_8 rfl (by decide) rfl ?_
  refine ww_iload_n C 0 rfl dX4_takesAt_9 ?_
  refine ww_bipush (v := 108) C dX4_takesAt_10 (by decide) ?_
  refine ww_icmp_eq (tgt := 21) C dX4_takesAt_12 (by decide) (fun hc => ?_) (fun hc => ?_)
  · have h := h.1 hc
    refine ww_iconst (v := 1) C dX4_takesAt_21 (by decide) ?_
    refine ww_goto (tgt := 26) C dX4_takesAt_22 (by decide) ?_
    exact ww_zret C hr hlk (by decide) h dX4_takesAt_26
  · have h := h.2 hc
    refine ww_iload_n C 0 rfl dX4_takesAt_15 ?_
    refine ww_bipush (v := 115) C dX4_takesAt_16 (by decide) ?_
    refine ww_icmp_ne (tgt := 25) C dX4_takesAt_18 (by decide) (fun hc => ?_) (fun hc => ?_)
    · have h := h.1 hc
      refine ww_iconst (v := 0) C dX4_takesAt_25 (by decide) ?_
      exact ww_zret C hr hlk (by decide) h dX4_takesAt_26
    · have h := h.2 hc
      refine ww_iconst (v := 1) C dX4_takesAt_21 (by decide) ?_
      refine ww_goto (tgt := 26) C dX4_takesAt_22 (by decide) ?_
      exact ww_zret C hr hlk (by decide) h dX4_takesAt_26
set_option maxRecDepth 100000 in
set_option maxHeartbeats 4000000 in
theorem w_X3_collect_L17b {p : Program} {l : Launch} {e : Env} {s : State} {m : MethodId} {args : Array Value} {below : List Frame} {meth : Method} {c : Code} {dC : Nat → ClassId} {dI : Nat → Nat → Nat} {cA : Nat → ClassId} {A : Nat → Prop} {al : Nat → Nat} {sh : List Kd} (C : Fx p s m args c cX3_collect 4 yX3_collect.cls dC dI cA A al) (hr : meth.sig.returnType = none) (hlk : meth.locks = false) (hs : ShC sh) {b1 : Nat} (hb1 : isRow sh b1) {Q : St → Prop} {x2 : Int32} {K102 : St → Prop} (hK102 : ∀ (σ : St), K102 σ → WW p l e (RM 1) s m args below meth c (MQ below (va_Qv Q (WPost dC dI cA al sh A) A) args s 0 0 A) dC dI cA A 4 0 0 al sh 102 [(0, .ref 52), (1, .ref b1), (2, .int x2)] [] σ) {Rc : St → Int32 → Prop} (hRc : ∀ (σ : St) (x3 : Int32), Rc σ x3 → WW p l e (RM 1) s m args below meth c (MQ below (va_Qv Q (WPost dC dI cA al sh A) A) args s 0 0 A) dC dI cA A 4 0 0 al sh 17 [(0, .ref 52), (1, .ref b1), (2, .int x2), (3, .int x3)] [] σ) {σ : St} {x3 : Int32} (h : m_X3_collect_L17b b1 Q x2 K102 Rc σ x3) : WW p l e (RM 1) s m args below meth c (MQ below (va_Qv Q (WPost dC dI cA al sh A) A) args s 0 0 A) dC dI cA A 4 0 0 al sh 17 [(0, .ref 52), (1, .ref b1), (2, .int x2), (3, .int x3)] [] σ := by
  unfold m_X3_collect_L17b at h
  refine ww_iload_n C 3 rfl dX3_collect_17 ?_
  refine ww_iconst (v := 4) C dX3_collect_18 (by decide) ?_
  refine ww_icmp_ge (tgt := 102) C dX3_collect_19 (by decide) (fun hc => ?_) (fun hc => ?_)
  · have h := h.1 hc
    refine ww_sub [0, 1, 2] rfl ?_
    exact hK102 _ h
  · have h := h.2 hc
    refine ww_aload_n C 1 rfl dX3_collect_22 ?_
    refine ww_iload_n C 2 rfl dX3_collect_23 ?_
    refine ww_vi (n := 1) (As := [.int x2]) (rest := []) C (c_X4_takesAt hb1 h) (row_o hb1) rfl nq_561 nq_562 nq_563 nq_19 nq_564 (by decide +kernel) rfl rfl ⟨Nat.le_of_ble_eq_true rfl, Nat.le_of_ble_eq_true rfl, Nat.le_of_ble_eq_true rfl, Nat.le_of_ble_eq_true rfl⟩ (Nat.le_of_ble_eq_true rfl) dX3_collect_24 (fun r24 σ24 h => ?_)
    refine ww_if_eq (tgt := 96) C dX3_collect_27 (by decide) (fun hc => ?_) (fun hc => ?_)
    · have h := h.1 hc
      refine ww_iinc (v := (x3 + 1)) (lv' := [(3, .int (x3 + 1)), (0, .ref 52), (1, .ref b1), (2, .int x2)]) C 3 rfl dX3_collect_96 rfl (by decide) rfl ?_
      refine ww_goto (tgt := 17) C dX3_collect_99 (by decide) ?_
      refine ww_sub [1, 2, 3, 0] rfl ?_
      exact hRc _ _ h
    · have h := h.2 hc
      refine ww_aload_n C 1 rfl dX3_collect_30 ?_
      refine ww_iload_n C 2 rfl dX3_collect_31 ?_
      refine ww_vi (n := 1) (As := [.int x2]) (rest := []) C (c_X4_heldAt hb1 h) (row_o hb1) rfl nq_565 nq_566 nq_567 nq_19 nq_568 (by decide +kernel) rfl rfl ⟨Nat.le_of_ble_eq_true rfl, Nat.le_of_ble_eq_true rfl, Nat.le_of_ble_eq_true rfl, Nat.le_of_ble_eq_true rfl⟩ (Nat.le_of_ble_eq_true rfl) dX3_collect_32 (fun r32 σ32 h => ?_)
      refine ww_iload_n C 3 rfl dX3_collect_35 ?_
      refine ww_ishr C dX3_collect_36 ?_
      refine ww_iconst (v := 1) C dX3_collect_37 (by decide) ?_
      refine ww_iand C dX3_collect_38 ?_
      refine ww_iconst (v := 1) C dX3_collect_39 (by decide) ?_
      refine ww_icmp_ne (tgt := 96) C dX3_collect_40 (by decide) (fun hc => ?_) (fun hc => ?_)
      · have h := h.1 hc
        refine ww_iinc (v := (x3 + 1)) (lv' := [(3, .int (x3 + 1)), (0, .ref 52), (1, .ref b1), (2, .int x2)]) C 3 rfl dX3_collect_96 rfl (by decide) rfl ?_
        refine ww_goto (tgt := 17) C dX3_collect_99 (by decide) ?_
        refine ww_sub [1, 2, 3, 0] rfl ?_
        exact hRc _ _ h
      · have h := h.2 hc
        refine ww_aload_n C 0 rfl dX3_collect_43 ?_
        refine ww_getI C (shc_52 hs) rfl inG3 0 (by decide) nq_560 rfl dX3_collect_44 ?_
        refine ww_bipush (v := 80) C dX3_collect_47 (by decide) ?_
        refine ww_icmp_ge (tgt := 96) C dX3_collect_49 (by decide) (fun hc => ?_) (fun hc => ?_)
        · have h := h.1 hc
          refine ww_iinc (v := (x3 + 1)) (lv' := [(3, .int (x3 + 1)), (0, .ref 52), (1, .ref b1), (2, .int x2)]) C 3 rfl dX3_collect_96 rfl (by decide) rfl ?_
          refine ww_goto (tgt := 17) C dX3_collect_99 (by decide) ?_
          refine ww_sub [1, 2, 3, 0] rfl ?_
          exact hRc _ _ h
        · have h := h.2 hc
          refine ww_aload_n C 0 rfl dX3_collect_52 ?_
          refine ww_getR C (shc_52 hs) rfl inG3 1 (by decide) nq_103 rfl dX3_collect_53 ?_
          refine ww_aload_n C 0 rfl dX3_collect_56 ?_
          refine ww_getI C (shc_52 hs) rfl inG3 0 (by decide) nq_560 rfl dX3_collect_57 ?_
          refine ww_iload_n C 2 rfl dX3_collect_60 ?_
          refine ww_iast C (shc_53 hs) h.1 dX3_collect_61 h.2 (fun σ61 h => ?_)
          refine ww_aload_n C 0 rfl dX3_collect_62 ?_
          refine ww_getR C (shc_52 hs) rfl inG3 2 (by decide) nq_104 rfl dX3_collect_63 ?_
          refine ww_aload_n C 0 rfl dX3_collect_66 ?_
          refine ww_getI C (shc_52 hs) rfl inG3 0 (by decide) nq_560 rfl dX3_collect_67 ?_
          refine ww_iload_n C 3 rfl dX3_collect_70 ?_
          refine ww_iast C (shc_54 hs) h.1 dX3_collect_71 h.2 (fun σ71 h => ?_)
          refine ww_aload_n C 0 rfl dX3_collect_72 ?_
          refine ww_getR C (shc_52 hs) rfl inG3 3 (by decide) nq_105 rfl dX3_collect_73 ?_
          refine ww_aload_n C 0 rfl dX3_collect_76 ?_
          refine ww_getI C (shc_52 hs) rfl inG3 0 (by decide) nq_560 rfl dX3_collect_77 ?_
          refine ww_aload_n C 1 rfl dX3_collect_80 ?_
          refine ww_iload_n C 2 rfl dX3_collect_81 ?_
          refine ww_vi (n := 1) (As := [.int x2]) (rest := [.int (σ71.1 52 0), .ref 55]) C (c_X4_aboutAt hb1 h) (row_o hb1) rfl nq_569 nq_312 nq_313 nq_19 nq_314 (by decide +kernel) rfl rfl ⟨Nat.le_of_ble_eq_true rfl, Nat.le_of_ble_eq_true rfl, Nat.le_of_ble_eq_true rfl, Nat.le_of_ble_eq_true rfl⟩ (Nat.le_of_ble_eq_true rfl) dX3_collect_82 (fun r82 σ82 h => ?_)
          refine ww_iast C (shc_55 hs) h.1 dX3_collect_85 h.2 (fun σ85 h => ?_)
          refine ww_aload_n C 0 rfl dX3_collect_86 ?_
          refine ww_dup C rfl dX3_collect_87 ?_
          refine ww_getI C (shc_52 hs) rfl inG3 0 (by decide) nq_560 rfl dX3_collect_88 ?_
          refine ww_iconst (v := 1) C dX3_collect_91 (by decide) ?_
          refine ww_iadd C dX3_collect_92 ?_
          refine ww_putI C (shc_52 hs) rfl inG3 0 (by decide) nq_560 tyX3 tyX3_ok nmX3 rfl (by decide +kernel) rfl dX3_collect_93 h (fun σ93 h => ?_)
          refine ww_iinc (v := (x3 + 1)) (lv' := [(3, .int (x3 + 1)), (0, .ref 52), (1, .ref b1), (2, .int x2)]) C 3 rfl dX3_collect_96 rfl (by decide) rfl ?_
          refine ww_goto (tgt := 17) C dX3_collect_99 (by decide) ?_
          refine ww_sub [1, 2, 3, 0] rfl ?_
          exact hRc _ _ h
set_option maxRecDepth 100000 in
set_option maxHeartbeats 4000000 in
theorem w_X3_collect_L17 {p : Program} {l : Launch} {e : Env} {s : State} {m : MethodId} {args : Array Value} {below : List Frame} {meth : Method} {c : Code} {dC : Nat → ClassId} {dI : Nat → Nat → Nat} {cA : Nat → ClassId} {A : Nat → Prop} {al : Nat → Nat} {sh : List Kd} (C : Fx p s m args c cX3_collect 4 yX3_collect.cls dC dI cA A al) (hr : meth.sig.returnType = none) (hlk : meth.locks = false) (hs : ShC sh) {b1 : Nat} (hb1 : isRow sh b1) {Q : St → Prop} {x2 : Int32} {K102 : St → Prop} (hK102 : ∀ (σ : St), K102 σ → WW p l e (RM 1) s m args below meth c (MQ below (va_Qv Q (WPost dC dI cA al sh A) A) args s 0 0 A) dC dI cA A 4 0 0 al sh 102 [(0, .ref 52), (1, .ref b1), (2, .int x2)] [] σ) : ∀ (f : Nat) (σ : St) (x3 : Int32), m_X3_collect_L17 b1 Q x2 K102 f σ x3 → WW p l e (RM 1) s m args below meth c (MQ below (va_Qv Q (WPost dC dI cA al sh A) A) args s 0 0 A) dC dI cA A 4 0 0 al sh 17 [(0, .ref 52), (1, .ref b1), (2, .int x2), (3, .int x3)] [] σ := by
  intro f
  induction f with
  | zero => intro σ x3 h; exact False.elim h
  | succ f ih => intro σ x3 h; exact w_X3_collect_L17b (Q := Q) C hr hlk hs hb1 hK102 ih h
set_option maxRecDepth 100000 in
set_option maxHeartbeats 4000000 in
theorem w_X3_collect_J102 {p : Program} {l : Launch} {e : Env} {s : State} {m : MethodId} {args : Array Value} {below : List Frame} {meth : Method} {c : Code} {dC : Nat → ClassId} {dI : Nat → Nat → Nat} {cA : Nat → ClassId} {A : Nat → Prop} {al : Nat → Nat} {sh : List Kd} (C : Fx p s m args c cX3_collect 4 yX3_collect.cls dC dI cA A al) (hr : meth.sig.returnType = none) (hlk : meth.locks = false) (hs : ShC sh) {b1 : Nat} (hb1 : isRow sh b1) {Q : St → Prop} {K108 : St → Prop} (hK108 : ∀ (σ : St), K108 σ → WW p l e (RM 1) s m args below meth c (MQ below (va_Qv Q (WPost dC dI cA al sh A) A) args s 0 0 A) dC dI cA A 4 0 0 al sh 108 [] [] σ) {Rc : St → Int32 → Prop} (hRc : ∀ (σ : St) (x2 : Int32), Rc σ x2 → WW p l e (RM 1) s m args below meth c (MQ below (va_Qv Q (WPost dC dI cA al sh A) A) args s 0 0 A) dC dI cA A 4 0 0 al sh 7 [(0, .ref 52), (1, .ref b1), (2, .int x2)] [] σ) {σ : St} {x2 : Int32} (h : m_X3_collect_J102 b1 Q K108 Rc σ x2) : WW p l e (RM 1) s m args below meth c (MQ below (va_Qv Q (WPost dC dI cA al sh A) A) args s 0 0 A) dC dI cA A 4 0 0 al sh 102 [(0, .ref 52), (1, .ref b1), (2, .int x2)] [] σ := by
  unfold m_X3_collect_J102 at h
  refine ww_iinc (v := (x2 + 1)) (lv' := [(2, .int (x2 + 1)), (0, .ref 52), (1, .ref b1)]) C 2 rfl dX3_collect_102 rfl (by decide) rfl ?_
  refine ww_goto (tgt := 7) C dX3_collect_105 (by decide) ?_
  refine ww_sub [1, 2, 0] rfl ?_
  exact hRc _ _ h
set_option maxRecDepth 100000 in
set_option maxHeartbeats 4000000 in
theorem w_X3_collect_L7b {p : Program} {l : Launch} {e : Env} {s : State} {m : MethodId} {args : Array Value} {below : List Frame} {meth : Method} {c : Code} {dC : Nat → ClassId} {dI : Nat → Nat → Nat} {cA : Nat → ClassId} {A : Nat → Prop} {al : Nat → Nat} {sh : List Kd} (C : Fx p s m args c cX3_collect 4 yX3_collect.cls dC dI cA A al) (hr : meth.sig.returnType = none) (hlk : meth.locks = false) (hs : ShC sh) {b1 : Nat} (hb1 : isRow sh b1) {Q : St → Prop} {K108 : St → Prop} (hK108 : ∀ (σ : St), K108 σ → WW p l e (RM 1) s m args below meth c (MQ below (va_Qv Q (WPost dC dI cA al sh A) A) args s 0 0 A) dC dI cA A 4 0 0 al sh 108 [] [] σ) {Rc : St → Int32 → Prop} (hRc : ∀ (σ : St) (x2 : Int32), Rc σ x2 → WW p l e (RM 1) s m args below meth c (MQ below (va_Qv Q (WPost dC dI cA al sh A) A) args s 0 0 A) dC dI cA A 4 0 0 al sh 7 [(0, .ref 52), (1, .ref b1), (2, .int x2)] [] σ) {σ : St} {x2 : Int32} (h : m_X3_collect_L7b b1 Q K108 Rc σ x2) : WW p l e (RM 1) s m args below meth c (MQ below (va_Qv Q (WPost dC dI cA al sh A) A) args s 0 0 A) dC dI cA A 4 0 0 al sh 7 [(0, .ref 52), (1, .ref b1), (2, .int x2)] [] σ := by
  unfold m_X3_collect_L7b at h
  refine ww_iload_n C 2 rfl dX3_collect_7 ?_
  refine ww_aload_n C 1 rfl dX3_collect_8 ?_
  refine ww_getIN C (row_o hb1) rfl inG4 0 (by decide) (List.mem_of_getElem? (i := 17) rfl) rfl dX3_collect_9 ?_
  refine ww_icmp_ge (tgt := 108) C dX3_collect_12 (by decide) (fun hc => ?_) (fun hc => ?_)
  · have h := h.1 hc
    refine ww_sub [] rfl ?_
    exact hK108 _ h
  · have h := h.2 hc
    refine ww_iconst (v := 0) C dX3_collect_15 (by decide) ?_
    refine ww_istore_n (lv' := [(3, .int 0), (0, .ref 52), (1, .ref b1), (2, .int x2)]) C dX3_collect_16 rfl (by decide) rfl ?_
    refine ww_sub [1, 2, 3, 0] rfl ?_
    obtain ⟨f, h⟩ := h
    exact w_X3_collect_L17 (Q := Q) C hr hlk hs hb1 (fun σ h => by exact w_X3_collect_J102 (Q := Q) C hr hlk hs hb1 hK108 hRc h) f _ _ h
set_option maxRecDepth 100000 in
set_option maxHeartbeats 4000000 in
theorem w_X3_collect_L7 {p : Program} {l : Launch} {e : Env} {s : State} {m : MethodId} {args : Array Value} {below : List Frame} {meth : Method} {c : Code} {dC : Nat → ClassId} {dI : Nat → Nat → Nat} {cA : Nat → ClassId} {A : Nat → Prop} {al : Nat → Nat} {sh : List Kd} (C : Fx p s m args c cX3_collect 4 yX3_collect.cls dC dI cA A al) (hr : meth.sig.returnType = none) (hlk : meth.locks = false) (hs : ShC sh) {b1 : Nat} (hb1 : isRow sh b1) {Q : St → Prop} {K108 : St → Prop} (hK108 : ∀ (σ : St), K108 σ → WW p l e (RM 1) s m args below meth c (MQ below (va_Qv Q (WPost dC dI cA al sh A) A) args s 0 0 A) dC dI cA A 4 0 0 al sh 108 [] [] σ) : ∀ (f : Nat) (σ : St) (x2 : Int32), m_X3_collect_L7 b1 Q K108 f σ x2 → WW p l e (RM 1) s m args below meth c (MQ below (va_Qv Q (WPost dC dI cA al sh A) A) args s 0 0 A) dC dI cA A 4 0 0 al sh 7 [(0, .ref 52), (1, .ref b1), (2, .int x2)] [] σ := by
  intro f
  induction f with
  | zero => intro σ x2 h; exact False.elim h
  | succ f ih => intro σ x2 h; exact w_X3_collect_L7b (Q := Q) C hr hlk hs hb1 hK108 ih h
set_option maxRecDepth 100000 in
set_option maxHeartbeats 4000000 in
theorem w_X3_collect_J108 {p : Program} {l : Launch} {e : Env} {s : State} {m : MethodId} {args : Array Value} {below : List Frame} {meth : Method} {c : Code} {dC : Nat → ClassId} {dI : Nat → Nat → Nat} {cA : Nat → ClassId} {A : Nat → Prop} {al : Nat → Nat} {sh : List Kd} (C : Fx p s m args c cX3_collect 4 yX3_collect.cls dC dI cA A al) (hr : meth.sig.returnType = none) (hlk : meth.locks = false) (hs : ShC sh) {b1 : Nat} (hb1 : isRow sh b1) {Q : St → Prop} {σ : St} (h : m_X3_collect_J108 b1 Q σ) : WW p l e (RM 1) s m args below meth c (MQ below (va_Qv Q (WPost dC dI cA al sh A) A) args s 0 0 A) dC dI cA A 4 0 0 al sh 108 [] [] σ := by
  unfold m_X3_collect_J108 at h
  exact ww_vret C hr hlk h dX3_collect_108
set_option maxRecDepth 100000 in
set_option maxHeartbeats 4000000 in
theorem c_X3_collect {l : Launch} {dC : Nat → ClassId} {dI : Nat → Nat → Nat} {cA : Nat → ClassId} {al : Nat → Nat} {sh : List Kd} (hs : ShC sh) {b1 : Nat} (hb1 : isRow sh b1) {σ : St} {Q : St → Prop} (h : m_X3_collect b1 σ Q) : ∀ sz, Met l yX3_collect (wd yX3_collect cX3_collect 4 none) (RM 1) (va_Pc ([.ref 52, .ref b1].map (cv al)) (WPre dC dI cA al sh σ sz)) (va_Qv Q (WPost dC dI cA al sh (AW al sh sz)) (AW al sh sz)) 0 0 (AW al sh sz) := by
  refine ww_met (Qc := fun A => va_Qv Q (WPost dC dI cA al sh A) A) (by decide +kernel) (Nat.le_of_ble_eq_true rfl) (fun p e s m args below meth c A C hr hlk => ?_)
  show WW p l e (RM 1) s m args below meth c (MQ below (va_Qv Q (WPost dC dI cA al sh A) A) args s 0 0 A) dC dI cA A 4 0 0 al sh 0 [(0, .ref 52), (1, .ref b1)] [] σ
  unfold m_X3_collect at h
  refine ww_aload_n C 0 rfl dX3_collect_0 ?_
  refine ww_iconst (v := 0) C dX3_collect_1 (by decide) ?_
  refine ww_putI C (shc_52 hs) rfl inG3 0 (by decide) nq_560 tyX3 tyX3_ok nmX3 rfl (by decide +kernel) rfl dX3_collect_2 h (fun σ2 h => ?_)
  refine ww_iconst (v := 0) C dX3_collect_5 (by decide) ?_
  refine ww_istore_n (lv' := [(2, .int 0), (0, .ref 52), (1, .ref b1)]) C dX3_collect_6 rfl (by decide) rfl ?_
  refine ww_sub [1, 2, 0] rfl ?_
  obtain ⟨f, h⟩ := h
  exact w_X3_collect_L7 (Q := Q) C hr hlk hs hb1 (fun σ h => by exact w_X3_collect_J108 (Q := Q) C hr hlk hs hb1 h) f _ _ h
set_option maxRecDepth 100000 in
set_option maxHeartbeats 4000000 in
theorem w_X3_between_L5b {p : Program} {l : Launch} {e : Env} {s : State} {m : MethodId} {args : Array Value} {below : List Frame} {meth : Method} {c : Code} {dC : Nat → ClassId} {dI : Nat → Nat → Nat} {cA : Nat → ClassId} {A : Nat → Prop} {al : Nat → Nat} {sh : List Kd} (C : Fx p s m args c cX3_between 5 yX3_between.cls dC dI cA A al) (hr : meth.sig.returnType = some .int) (hlk : meth.locks = false) (hs : ShC sh) {a1 : Int32} {a2 : Int32} {Q : Int32 → St → Prop} {K45 : St → Int32 → Prop} (hK45 : ∀ (σ : St) (x3 : Int32), K45 σ x3 → WW p l e (RM 0) s m args below meth c (MQ below (va_Qi Q (WPost dC dI cA al sh A) A) args s 0 0 A) dC dI cA A 5 0 0 al sh 45 [(3, .int x3)] [] σ) {Rc : St → Int32 → Int32 → Prop} (hRc : ∀ (σ : St) (x3 : Int32) (x4 : Int32), Rc σ x3 x4 → WW p l e (RM 0) s m args below meth c (MQ below (va_Qi Q (WPost dC dI cA al sh A) A) args s 0 0 A) dC dI cA A 5 0 0 al sh 5 [(0, .ref 52), (1, .int a1), (2, .int a2), (3, .int x3), (4, .int x4)] [] σ) {σ : St} {x3 : Int32} {x4 : Int32} (h : m_X3_between_L5b a1 a2 Q K45 Rc σ x3 x4) : WW p l e (RM 0) s m args below meth c (MQ below (va_Qi Q (WPost dC dI cA al sh A) A) args s 0 0 A) dC dI cA A 5 0 0 al sh 5 [(0, .ref 52), (1, .int a1), (2, .int a2), (3, .int x3), (4, .int x4)] [] σ := by
  unfold m_X3_between_L5b at h
  refine ww_iload C 4 rfl dX3_between_5 ?_
  refine ww_aload_n C 0 rfl dX3_between_7 ?_
  refine ww_getI C (shc_52 hs) rfl inG3 0 (by decide) nq_560 rfl dX3_between_8 ?_
  refine ww_icmp_ge (tgt := 45) C dX3_between_11 (by decide) (fun hc => ?_) (fun hc => ?_)
  · have h := h.1 hc
    refine ww_sub [3] rfl ?_
    exact hK45 _ _ h
  · have h := h.2 hc
    refine ww_aload_n C 0 rfl dX3_between_14 ?_
    refine ww_getR C (shc_52 hs) rfl inG3 2 (by decide) nq_104 rfl dX3_between_15 ?_
    refine ww_iload C 4 rfl dX3_between_18 ?_
    refine ww_iald C (shc_54 hs) h.1 dX3_between_20 ?_
    have h := h.2
    refine ww_iload_n C 1 rfl dX3_between_21 ?_
    refine ww_icmp_ne (tgt := 39) C dX3_between_22 (by decide) (fun hc => ?_) (fun hc => ?_)
    · have h := h.1 hc
      refine ww_iinc (v := (x4 + 1)) (lv' := [(4, .int (x4 + 1)), (0, .ref 52), (1, .int a1), (2, .int a2), (3, .int x3)]) C 4 rfl dX3_between_39 rfl (by decide) rfl ?_
      refine ww_goto (tgt := 5) C dX3_between_42 (by decide) ?_
      refine ww_sub [1, 2, 3, 4, 0] rfl ?_
      exact hRc _ _ _ h
    · have h := h.2 hc
      refine ww_aload_n C 0 rfl dX3_between_25 ?_
      refine ww_getR C (shc_52 hs) rfl inG3 3 (by decide) nq_105 rfl dX3_between_26 ?_
      refine ww_iload C 4 rfl dX3_between_29 ?_
      refine ww_iald C (shc_55 hs) h.1 dX3_between_31 ?_
      have h := h.2
      refine ww_iload_n C 2 rfl dX3_between_32 ?_
      refine ww_icmp_ne (tgt := 39) C dX3_between_33 (by decide) (fun hc => ?_) (fun hc => ?_)
      · have h := h.1 hc
        refine ww_iinc (v := (x4 + 1)) (lv' := [(4, .int (x4 + 1)), (0, .ref 52), (1, .int a1), (2, .int a2), (3, .int x3)]) C 4 rfl dX3_between_39 rfl (by decide) rfl ?_
        refine ww_goto (tgt := 5) C dX3_between_42 (by decide) ?_
        refine ww_sub [1, 2, 3, 4, 0] rfl ?_
        exact hRc _ _ _ h
      · have h := h.2 hc
        refine ww_iinc (v := (x3 + 1)) (lv' := [(3, .int (x3 + 1)), (0, .ref 52), (1, .int a1), (2, .int a2), (4, .int x4)]) C 3 rfl dX3_between_36 rfl (by decide) rfl ?_
        refine ww_iinc (v := (x4 + 1)) (lv' := [(4, .int (x4 + 1)), (3, .int (x3 + 1)), (0, .ref 52), (1, .int a1), (2, .int a2)]) C 4 rfl dX3_between_39 rfl (by decide) rfl ?_
        refine ww_goto (tgt := 5) C dX3_between_42 (by decide) ?_
        refine ww_sub [2, 3, 4, 1, 0] rfl ?_
        exact hRc _ _ _ h
set_option maxRecDepth 100000 in
set_option maxHeartbeats 4000000 in
theorem w_X3_between_L5 {p : Program} {l : Launch} {e : Env} {s : State} {m : MethodId} {args : Array Value} {below : List Frame} {meth : Method} {c : Code} {dC : Nat → ClassId} {dI : Nat → Nat → Nat} {cA : Nat → ClassId} {A : Nat → Prop} {al : Nat → Nat} {sh : List Kd} (C : Fx p s m args c cX3_between 5 yX3_between.cls dC dI cA A al) (hr : meth.sig.returnType = some .int) (hlk : meth.locks = false) (hs : ShC sh) {a1 : Int32} {a2 : Int32} {Q : Int32 → St → Prop} {K45 : St → Int32 → Prop} (hK45 : ∀ (σ : St) (x3 : Int32), K45 σ x3 → WW p l e (RM 0) s m args below meth c (MQ below (va_Qi Q (WPost dC dI cA al sh A) A) args s 0 0 A) dC dI cA A 5 0 0 al sh 45 [(3, .int x3)] [] σ) : ∀ (f : Nat) (σ : St) (x3 : Int32) (x4 : Int32), m_X3_between_L5 a1 a2 Q K45 f σ x3 x4 → WW p l e (RM 0) s m args below meth c (MQ below (va_Qi Q (WPost dC dI cA al sh A) A) args s 0 0 A) dC dI cA A 5 0 0 al sh 5 [(0, .ref 52), (1, .int a1), (2, .int a2), (3, .int x3), (4, .int x4)] [] σ := by
  intro f
  induction f with
  | zero => intro σ x3 x4 h; exact False.elim h
  | succ f ih => intro σ x3 x4 h; exact w_X3_between_L5b (Q := Q) (a1 := a1) (a2 := a2) C hr hlk hs hK45 ih h
set_option maxRecDepth 100000 in
set_option maxHeartbeats 4000000 in
theorem w_X3_between_J45 {p : Program} {l : Launch} {e : Env} {s : State} {m : MethodId} {args : Array Value} {below : List Frame} {meth : Method} {c : Code} {dC : Nat → ClassId} {dI : Nat → Nat → Nat} {cA : Nat → ClassId} {A : Nat → Prop} {al : Nat → Nat} {sh : List Kd} (C : Fx p s m args c cX3_between 5 yX3_between.cls dC dI cA A al) (hr : meth.sig.returnType = some .int) (hlk : meth.locks = false) (hs : ShC sh) {a1 : Int32} {a2 : Int32} {Q : Int32 → St → Prop} {σ : St} {x3 : Int32} (h : m_X3_between_J45 a1 a2 Q σ x3) : WW p l e (RM 0) s m args below meth c (MQ below (va_Qi Q (WPost dC dI cA al sh A) A) args s 0 0 A) dC dI cA A 5 0 0 al sh 45 [(3, .int x3)] [] σ := by
  unfold m_X3_between_J45 at h
  refine ww_iload_n C 0 rfl dX3_between_45 ?_
  exact ww_iret C hr hlk h dX3_between_46
set_option maxRecDepth 100000 in
set_option maxHeartbeats 4000000 in
theorem c_X3_between {l : Launch} {dC : Nat → ClassId} {dI : Nat → Nat → Nat} {cA : Nat → ClassId} {al : Nat → Nat} {sh : List Kd} (hs : ShC sh) {σ : St} {a1 : Int32} {a2 : Int32} {Q : Int32 → St → Prop} (h : m_X3_between σ a1 a2 Q) : ∀ sz, Met l yX3_between (wd yX3_between cX3_between 5 (some .int)) (RM 0) (va_Pc ([.ref 52, .int a1, .int a2].map (cv al)) (WPre dC dI cA al sh σ sz)) (va_Qi Q (WPost dC dI cA al sh (AW al sh sz)) (AW al sh sz)) 0 0 (AW al sh sz) := by
  refine ww_met (Qc := fun A => va_Qi Q (WPost dC dI cA al sh A) A) (by decide +kernel) (Nat.le_of_ble_eq_true rfl) (fun p e s m args below meth c A C hr hlk => ?_)
  show WW p l e (RM 0) s m args below meth c (MQ below (va_Qi Q (WPost dC dI cA al sh A) A) args s 0 0 A) dC dI cA A 5 0 0 al sh 0 [(0, .ref 52), (1, .int a1), (2, .int a2)] [] σ
  unfold m_X3_between at h
  refine ww_iconst (v := 0) C dX3_between_0 (by decide) ?_
  refine ww_istore_n (lv' := [(3, .int 0), (0, .ref 52), (1, .int a1), (2, .int a2)]) C dX3_between_1 rfl (by decide) rfl ?_
  refine ww_iconst (v := 0) C dX3_between_2 (by decide) ?_
  refine ww_istore (lv' := [(4, .int 0), (3, .int 0), (0, .ref 52), (1, .int a1), (2, .int a2)]) C dX3_between_3 (by decide) rfl ?_
  refine ww_sub [2, 3, 4, 1, 0] rfl ?_
  obtain ⟨f, h⟩ := h
  exact w_X3_between_L5 (Q := Q) (a1 := a1) (a2 := a2) C hr hlk hs (fun σ x3 h => by exact w_X3_between_J45 (Q := Q) (a1 := a1) (a2 := a2) C hr hlk hs h) f _ _ _ h
set_option maxRecDepth 100000 in
set_option maxHeartbeats 4000000 in
theorem w_X3_feasible_L4b {p : Program} {l : Launch} {e : Env} {s : State} {m : MethodId} {args : Array Value} {below : List Frame} {meth : Method} {c : Code} {dC : Nat → ClassId} {dI : Nat → Nat → Nat} {cA : Nat → ClassId} {A : Nat → Prop} {al : Nat → Nat} {sh : List Kd} (C : Fx p s m args c cX3_feasible 3 yX3_feasible.cls dC dI cA A al) (hr : meth.sig.returnType = some .int) (hlk : meth.locks = false) (hs : ShC sh) {Q : Int32 → St → Prop} {K28 : St → Int32 → Prop} (hK28 : ∀ (σ : St) (x1 : Int32), K28 σ x1 → WW p l e (RM 0) s m args below meth c (MQ below (va_Qi Q (WPost dC dI cA al sh A) A) args s 0 0 A) dC dI cA A 3 0 0 al sh 28 [(1, .int x1)] [] σ) {Rc : St → Int32 → Int32 → Prop} (hRc : ∀ (σ : St) (x1 : Int32) (x2 : Int32), Rc σ x1 x2 → WW p l e (RM 0) s m args below meth c (MQ below (va_Qi Q (WPost dC dI cA al sh A) A) args s 0 0 A) dC dI cA A 3 0 0 al sh 4 [(0, .ref 52), (1, .int x1), (2, .int x2)] [] σ) {σ : St} {x1 : Int32} {x2 : Int32} (h : m_X3_feasible_L4b Q K28 Rc σ x1 x2) : WW p l e (RM 0) s m args below meth c (MQ below (va_Qi Q (WPost dC dI cA al sh A) A) args s 0 0 A) dC dI cA A 3 0 0 al sh 4 [(0, .ref 52), (1, .int x1), (2, .int x2)] [] σ := by
  unfold m_X3_feasible_L4b at h
  refine ww_iload_n C 2 rfl dX3_feasible_4 ?_
  refine ww_iconst (v := 4) C dX3_feasible_5 (by decide) ?_
  refine ww_icmp_gt (tgt := 28) C dX3_feasible_6 (by decide) (fun hc => ?_) (fun hc => ?_)
  · have h := h.1 hc
    refine ww_sub [1] rfl ?_
    exact hK28 _ _ h
  · have h := h.2 hc
    refine ww_iload_n C 1 rfl dX3_feasible_9 ?_
    refine ww_aload_n C 0 rfl dX3_feasible_10 ?_
    refine ww_getR C (shc_52 hs) rfl inG3 4 (by decide) nq_106 rfl dX3_feasible_11 ?_
    refine ww_iload_n C 2 rfl dX3_feasible_14 ?_
    refine ww_iconst (v := 4) C dX3_feasible_15 (by decide) ?_
    refine ww_imul C dX3_feasible_16 ?_
    refine ww_iconst (v := 3) C dX3_feasible_17 (by decide) ?_
    refine ww_iadd C dX3_feasible_18 ?_
    refine ww_iald C (shc_56 hs) h.1 dX3_feasible_19 ?_
    have h := h.2
    refine ww_iadd C dX3_feasible_20 ?_
    refine ww_nmI h (fun y21 h => ?_)
    refine ww_istore_n (lv' := [(1, .int y21), (0, .ref 52), (2, .int x2)]) C dX3_feasible_21 rfl (by decide) rfl ?_
    refine ww_iinc (v := (x2 + 1)) (lv' := [(2, .int (x2 + 1)), (1, .int y21), (0, .ref 52)]) C 2 rfl dX3_feasible_22 rfl (by decide) rfl ?_
    refine ww_goto (tgt := 4) C dX3_feasible_25 (by decide) ?_
    refine ww_sub [2, 1, 0] rfl ?_
    exact hRc _ _ _ h
set_option maxRecDepth 100000 in
set_option maxHeartbeats 4000000 in
theorem w_X3_feasible_L4 {p : Program} {l : Launch} {e : Env} {s : State} {m : MethodId} {args : Array Value} {below : List Frame} {meth : Method} {c : Code} {dC : Nat → ClassId} {dI : Nat → Nat → Nat} {cA : Nat → ClassId} {A : Nat → Prop} {al : Nat → Nat} {sh : List Kd} (C : Fx p s m args c cX3_feasible 3 yX3_feasible.cls dC dI cA A al) (hr : meth.sig.returnType = some .int) (hlk : meth.locks = false) (hs : ShC sh) {Q : Int32 → St → Prop} {K28 : St → Int32 → Prop} (hK28 : ∀ (σ : St) (x1 : Int32), K28 σ x1 → WW p l e (RM 0) s m args below meth c (MQ below (va_Qi Q (WPost dC dI cA al sh A) A) args s 0 0 A) dC dI cA A 3 0 0 al sh 28 [(1, .int x1)] [] σ) : ∀ (f : Nat) (σ : St) (x1 : Int32) (x2 : Int32), m_X3_feasible_L4 Q K28 f σ x1 x2 → WW p l e (RM 0) s m args below meth c (MQ below (va_Qi Q (WPost dC dI cA al sh A) A) args s 0 0 A) dC dI cA A 3 0 0 al sh 4 [(0, .ref 52), (1, .int x1), (2, .int x2)] [] σ := by
  intro f
  induction f with
  | zero => intro σ x1 x2 h; exact False.elim h
  | succ f ih => intro σ x1 x2 h; exact w_X3_feasible_L4b (Q := Q) C hr hlk hs hK28 ih h
set_option maxRecDepth 100000 in
set_option maxHeartbeats 4000000 in
theorem w_X3_feasible_J28 {p : Program} {l : Launch} {e : Env} {s : State} {m : MethodId} {args : Array Value} {below : List Frame} {meth : Method} {c : Code} {dC : Nat → ClassId} {dI : Nat → Nat → Nat} {cA : Nat → ClassId} {A : Nat → Prop} {al : Nat → Nat} {sh : List Kd} (C : Fx p s m args c cX3_feasible 3 yX3_feasible.cls dC dI cA A al) (hr : meth.sig.returnType = some .int) (hlk : meth.locks = false) (hs : ShC sh) {Q : Int32 → St → Prop} {σ : St} {x1 : Int32} (h : m_X3_feasible_J28 Q σ x1) : WW p l e (RM 0) s m args below meth c (MQ below (va_Qi Q (WPost dC dI cA al sh A) A) args s 0 0 A) dC dI cA A 3 0 0 al sh 28 [(1, .int x1)] [] σ := by
  unfold m_X3_feasible_J28 at h
  refine ww_iload_n C 0 rfl dX3_feasible_28 ?_
  exact ww_iret C hr hlk h dX3_feasible_29
set_option maxRecDepth 100000 in
set_option maxHeartbeats 4000000 in
theorem c_X3_feasible {l : Launch} {dC : Nat → ClassId} {dI : Nat → Nat → Nat} {cA : Nat → ClassId} {al : Nat → Nat} {sh : List Kd} (hs : ShC sh) {σ : St} {Q : Int32 → St → Prop} (h : m_X3_feasible σ Q) : ∀ sz, Met l yX3_feasible (wd yX3_feasible cX3_feasible 3 (some .int)) (RM 0) (va_Pc ([.ref 52].map (cv al)) (WPre dC dI cA al sh σ sz)) (va_Qi Q (WPost dC dI cA al sh (AW al sh sz)) (AW al sh sz)) 0 0 (AW al sh sz) := by
  refine ww_met (Qc := fun A => va_Qi Q (WPost dC dI cA al sh A) A) (by decide +kernel) (Nat.le_of_ble_eq_true rfl) (fun p e s m args below meth c A C hr hlk => ?_)
  show WW p l e (RM 0) s m args below meth c (MQ below (va_Qi Q (WPost dC dI cA al sh A) A) args s 0 0 A) dC dI cA A 3 0 0 al sh 0 [(0, .ref 52)] [] σ
  unfold m_X3_feasible at h
  refine ww_iconst (v := 0) C dX3_feasible_0 (by decide) ?_
  refine ww_istore_n (lv' := [(1, .int 0), (0, .ref 52)]) C dX3_feasible_1 rfl (by decide) rfl ?_
  refine ww_iconst (v := 2) C dX3_feasible_2 (by decide) ?_
  refine ww_istore_n (lv' := [(2, .int 2), (1, .int 0), (0, .ref 52)]) C dX3_feasible_3 rfl (by decide) rfl ?_
  refine ww_sub [2, 1, 0] rfl ?_
  obtain ⟨f, h⟩ := h
  exact w_X3_feasible_L4 (Q := Q) C hr hlk hs (fun σ x1 h => by exact w_X3_feasible_J28 (Q := Q) C hr hlk hs h) f _ _ _ h
set_option maxRecDepth 100000 in
set_option maxHeartbeats 4000000 in
theorem c_X4_signAt {l : Launch} {dC : Nat → ClassId} {dI : Nat → Nat → Nat} {cA : Nat → ClassId} {al : Nat → Nat} {sh : List Kd} {b0 : Nat} (hb0 : isRow sh b0) {σ : St} {a1 : Int32} {Q : Int32 → St → Prop} (h : m_X4_signAt b0 σ a1 Q) : ∀ sz, Met l yX4_signAt (wd yX4_signAt cX4_signAt 2 (some .int)) (RM 0) (va_Pc ([.ref b0, .int a1].map (cv al)) (WPre dC dI cA al sh σ sz)) (va_Qi Q (WPost dC dI cA al sh (AW al sh sz)) (AW al sh sz)) 0 0 (AW al sh sz) := by
  refine ww_met (Qc := fun A => va_Qi Q (WPost dC dI cA al sh A) A) (by decide +kernel) (Nat.le_of_ble_eq_true rfl) (fun p e s m args below meth c A C hr hlk => ?_)
  show WW p l e (RM 0) s m args below meth c (MQ below (va_Qi Q (WPost dC dI cA al sh A) A) args s 0 0 A) dC dI cA A 2 0 0 al sh 0 [(0, .ref b0), (1, .int a1)] [] σ
  unfold m_X4_signAt at h
  refine ww_aload_n C 0 rfl dX4_signAt_0 ?_
  refine ww_getR C (row_o hb0) rfl inG4 1 (by decide) nq_52 rfl dX4_signAt_1 ?_
  refine ww_iload_n C 1 rfl dX4_signAt_4 ?_
  refine ww_iald C (row_1 hb0) h.1 dX4_signAt_5 ?_
  have h := h.2
  refine ww_iconst (v := 4) C dX4_signAt_6 (by decide) ?_
  refine ww_ishr C dX4_signAt_7 ?_
  exact ww_iret C hr hlk h dX4_signAt_8
set_option maxRecDepth 100000 in
set_option maxHeartbeats 4000000 in
theorem w_X3_links_J68 {p : Program} {l : Launch} {e : Env} {s : State} {m : MethodId} {args : Array Value} {below : List Frame} {meth : Method} {c : Code} {dC : Nat → ClassId} {dI : Nat → Nat → Nat} {cA : Nat → ClassId} {A : Nat → Prop} {al : Nat → Nat} {sh : List Kd} (C : Fx p s m args c cX3_links 6 yX3_links.cls dC dI cA A al) (hr : meth.sig.returnType = some .boolean) (hlk : meth.locks = false) (hs : ShC sh) {b1 : Nat} (hb1 : isRow sh b1) {a2 : Int32} {a3 : Int32} {Q : Int32 → St → Prop} {σ : St} {x4 : Int32} {t0 : Int32} (h : m_X3_links_J68 b1 a2 a3 Q σ x4 t0) : WW p l e (RM 1) s m args below meth c (MQ below (va_Qi Q (WPost dC dI cA al sh A) A) args s 0 0 A) dC dI cA A 6 0 0 al sh 68 [(4, .int x4)] [.int t0] σ := by
  unfold m_X3_links_J68 at h
  refine ww_istore (lv' := [(5, .int t0), (4, .int x4)]) C dX3_links_68 (by decide) rfl ?_
  refine ww_iload C 1 rfl dX3_links_70 ?_
  refine ww_if_eq (tgt := 80) C dX3_links_72 (by decide) (fun hc => ?_) (fun hc => ?_)
  · have h := h.1 hc
    refine ww_iconst (v := 1) C dX3_links_80 (by decide) ?_
    refine ww_goto (tgt := 85) C dX3_links_81 (by decide) ?_
    exact ww_zret C hr hlk (by decide) h dX3_links_85
  · have h := h.2 hc
    refine ww_iload C 0 rfl dX3_links_75 ?_
    refine ww_if_ne (tgt := 84) C dX3_links_77 (by decide) (fun hc => ?_) (fun hc => ?_)
    · have h := h.1 hc
      refine ww_iconst (v := 0) C dX3_links_84 (by decide) ?_
      exact ww_zret C hr hlk (by decide) h dX3_links_85
    · have h := h.2 hc
      refine ww_iconst (v := 1) C dX3_links_80 (by decide) ?_
      refine ww_goto (tgt := 85) C dX3_links_81 (by decide) ?_
      exact ww_zret C hr hlk (by decide) h dX3_links_85
set_option maxRecDepth 100000 in
set_option maxHeartbeats 4000000 in
theorem w_X3_links_J37 {p : Program} {l : Launch} {e : Env} {s : State} {m : MethodId} {args : Array Value} {below : List Frame} {meth : Method} {c : Code} {dC : Nat → ClassId} {dI : Nat → Nat → Nat} {cA : Nat → ClassId} {A : Nat → Prop} {al : Nat → Nat} {sh : List Kd} (C : Fx p s m args c cX3_links 6 yX3_links.cls dC dI cA A al) (hr : meth.sig.returnType = some .boolean) (hlk : meth.locks = false) (hs : ShC sh) {b1 : Nat} (hb1 : isRow sh b1) {a2 : Int32} {a3 : Int32} {Q : Int32 → St → Prop} {σ : St} {t0 : Int32} (h : m_X3_links_J37 b1 a2 a3 Q σ t0) : WW p l e (RM 1) s m args below meth c (MQ below (va_Qi Q (WPost dC dI cA al sh A) A) args s 0 0 A) dC dI cA A 6 0 0 al sh 37 [(0, .ref 52), (1, .ref b1), (3, .int a3)] [.int t0] σ := by
  unfold m_X3_links_J37 at h
  refine ww_istore (lv' := [(4, .int t0), (0, .ref 52), (1, .ref b1), (3, .int a3)]) C dX3_links_37 (by decide) rfl ?_
  refine ww_aload_n C 2 rfl dX3_links_39 ?_
  refine ww_getRN C (row_o hb1) rfl inG4 3 (by decide) (List.mem_of_getElem? (i := 18) rfl) rfl dX3_links_40 ?_
  refine ww_aload_n C 1 rfl dX3_links_43 ?_
  refine ww_getR C (shc_52 hs) rfl inG3 1 (by decide) nq_103 rfl dX3_links_44 ?_
  refine ww_iload_n C 3 rfl dX3_links_47 ?_
  refine ww_iald C (shc_53 hs) h.1 dX3_links_48 ?_
  have h := h.2
  refine ww_iald C (row_3 hb1) h.1 dX3_links_49 ?_
  have h := h.2
  refine ww_aload_n C 1 rfl dX3_links_50 ?_
  refine ww_getR C (shc_52 hs) rfl inG3 2 (by decide) nq_104 rfl dX3_links_51 ?_
  refine ww_iload_n C 3 rfl dX3_links_54 ?_
  refine ww_iald C (shc_54 hs) h.1 dX3_links_55 ?_
  have h := h.2
  refine ww_ishr C dX3_links_56 ?_
  refine ww_iconst (v := 1) C dX3_links_57 (by decide) ?_
  refine ww_iand C dX3_links_58 ?_
  refine ww_iconst (v := 1) C dX3_links_59 (by decide) ?_
  refine ww_icmp_ne (tgt := 67) C dX3_links_60 (by decide) (fun hc => ?_) (fun hc => ?_)
  · have h := h.1 hc
    refine ww_iconst (v := 0) C dX3_links_67 (by decide) ?_
    refine ww_sub [0] rfl ?_
    exact w_X3_links_J68 (Q := Q) (a2 := a2) (a3 := a3) C hr hlk hs hb1 h
  · have h := h.2 hc
    refine ww_iconst (v := 1) C dX3_links_63 (by decide) ?_
    refine ww_goto (tgt := 68) C dX3_links_64 (by decide) ?_
    refine ww_sub [0] rfl ?_
    exact w_X3_links_J68 (Q := Q) (a2 := a2) (a3 := a3) C hr hlk hs hb1 h
set_option maxRecDepth 100000 in
set_option maxHeartbeats 4000000 in
theorem c_X3_links {l : Launch} {dC : Nat → ClassId} {dI : Nat → Nat → Nat} {cA : Nat → ClassId} {al : Nat → Nat} {sh : List Kd} (hs : ShC sh) {b1 : Nat} (hb1 : isRow sh b1) {σ : St} {a2 : Int32} {a3 : Int32} {Q : Int32 → St → Prop} (h : m_X3_links b1 σ a2 a3 Q) : ∀ sz, Met l yX3_links (wd yX3_links cX3_links 6 (some .boolean)) (RM 1) (va_Pc ([.ref 52, .ref b1, .int a2, .int a3].map (cv al)) (WPre dC dI cA al sh σ sz)) (va_Qi Q (WPost dC dI cA al sh (AW al sh sz)) (AW al sh sz)) 0 0 (AW al sh sz) := by
  refine ww_met (Qc := fun A => va_Qi Q (WPost dC dI cA al sh A) A) (by decide +kernel) (Nat.le_of_ble_eq_true rfl) (fun p e s m args below meth c A C hr hlk => ?_)
  show WW p l e (RM 1) s m args below meth c (MQ below (va_Qi Q (WPost dC dI cA al sh A) A) args s 0 0 A) dC dI cA A 6 0 0 al sh 0 [(0, .ref 52), (1, .ref b1), (2, .int a2), (3, .int a3)] [] σ
  unfold m_X3_links at h
  refine ww_aload_n C 0 rfl dX3_links_0 ?_
  refine ww_getR C (shc_52 hs) rfl inG3 3 (by decide) nq_105 rfl dX3_links_1 ?_
  refine ww_iload_n C 2 rfl dX3_links_4 ?_
  refine ww_iald C (shc_55 hs) h.1 dX3_links_5 ?_
  have h := h.2
  refine ww_aload_n C 0 rfl dX3_links_6 ?_
  refine ww_getR C (shc_52 hs) rfl inG3 2 (by decide) nq_104 rfl dX3_links_7 ?_
  refine ww_iload_n C 3 rfl dX3_links_10 ?_
  refine ww_iald C (shc_54 hs) h.1 dX3_links_11 ?_
  have h := h.2
  refine ww_icmp_eq (tgt := 17) C dX3_links_12 (by decide) (fun hc => ?_) (fun hc => ?_)
  · have h := h.1 hc
    refine ww_aload_n C 1 rfl dX3_links_17 ?_
    refine ww_aload_n C 0 rfl dX3_links_18 ?_
    refine ww_getR C (shc_52 hs) rfl inG3 1 (by decide) nq_103 rfl dX3_links_19 ?_
    refine ww_iload_n C 2 rfl dX3_links_22 ?_
    refine ww_iald C (shc_53 hs) h.1 dX3_links_23 ?_
    have h := h.2
    refine ww_vi (n := 1) (As := [.int (σ.1 53 a2.toNatClampNeg)]) (rest := []) C (c_X4_signAt hb1 h) (row_o hb1) rfl nq_602 nq_308 nq_309 nq_19 nq_310 (by decide +kernel) rfl rfl ⟨Nat.le_of_ble_eq_true rfl, Nat.le_of_ble_eq_true rfl, Nat.le_of_ble_eq_true rfl, Nat.le_of_ble_eq_true rfl⟩ (Nat.le_of_ble_eq_true rfl) dX3_links_24 (fun r24 σ24 h => ?_)
    refine ww_bipush (v := 115) C dX3_links_27 (by decide) ?_
    refine ww_icmp_ne (tgt := 36) C dX3_links_29 (by decide) (fun hc => ?_) (fun hc => ?_)
    · have h := h.1 hc
      refine ww_iconst (v := 0) C dX3_links_36 (by decide) ?_
      refine ww_sub [0, 1, 3] rfl ?_
      exact w_X3_links_J37 (Q := Q) (a2 := a2) (a3 := a3) C hr hlk hs hb1 h
    · have h := h.2 hc
      refine ww_iconst (v := 1) C dX3_links_32 (by decide) ?_
      refine ww_goto (tgt := 37) C dX3_links_33 (by decide) ?_
      refine ww_sub [0, 1, 3] rfl ?_
      exact w_X3_links_J37 (Q := Q) (a2 := a2) (a3 := a3) C hr hlk hs hb1 h
  · have h := h.2 hc
    refine ww_iconst (v := 0) C dX3_links_15 (by decide) ?_
    exact ww_zret C hr hlk (by decide) h dX3_links_16
set_option maxRecDepth 100000 in
set_option maxHeartbeats 4000000 in
theorem w_X3_tallyRing_J99 {p : Program} {l : Launch} {e : Env} {s : State} {m : MethodId} {args : Array Value} {below : List Frame} {meth : Method} {c : Code} {dC : Nat → ClassId} {dI : Nat → Nat → Nat} {cA : Nat → ClassId} {A : Nat → Prop} {al : Nat → Nat} {sh : List Kd} (C : Fx p s m args c cX3_tallyRing 10 yX3_tallyRing.cls dC dI cA A al) (hr : meth.sig.returnType = none) (hlk : meth.locks = false) (hs : ShC sh) {b1 : Nat} (hb1 : isRow sh b1) {a2 : Int32} {Q : St → Prop} {x5 : Int32} {x6 : Int32} {x7 : Int32} {K129 : St → Int32 → Int32 → Prop} (hK129 : ∀ (σ : St) (x3 : Int32) (x4 : Int32), K129 σ x3 x4 → WW p l e (RM 1) s m args below meth c (MQ below (va_Qv Q (WPost dC dI cA al sh A) A) args s 0 0 A) dC dI cA A 10 0 0 al sh 129 [(0, .ref 52), (1, .ref b1), (2, .int a2), (3, .int x3), (4, .int x4), (5, .int x5), (6, .int x6)] [] σ) {Rc : St → Int32 → Int32 → Int32 → Prop} (hRc : ∀ (σ : St) (x3 : Int32) (x4 : Int32) (x8 : Int32), Rc σ x3 x4 x8 → WW p l e (RM 1) s m args below meth c (MQ below (va_Qv Q (WPost dC dI cA al sh A) A) args s 0 0 A) dC dI cA A 10 0 0 al sh 46 [(0, .ref 52), (1, .ref b1), (2, .int a2), (3, .int x3), (4, .int x4), (5, .int x5), (6, .int x6), (7, .int x7), (8, .int x8)] [] σ) {σ : St} {x4 : Int32} {x8 : Int32} {x9 : Int32} {t0 : Int32} (h : m_X3_tallyRing_J99 b1 a2 Q x5 x6 x7 K129 Rc σ x4 x8 x9 t0) : WW p l e (RM 1) s m args below meth c (MQ below (va_Qv Q (WPost dC dI cA al sh A) A) args s 0 0 A) dC dI cA A 10 0 0 al sh 99 [(0, .ref 52), (1, .ref b1), (2, .int a2), (4, .int x4), (5, .int x5), (6, .int x6), (7, .int x7), (8, .int x8), (9, .int x9)] [.int t0] σ := by
  unfold m_X3_tallyRing_J99 at h
  refine ww_istore_n (lv' := [(3, .int t0), (0, .ref 52), (1, .ref b1), (2, .int a2), (4, .int x4), (5, .int x5), (6, .int x6), (7, .int x7), (8, .int x8), (9, .int x9)]) C dX3_tallyRing_99 rfl (by decide) rfl ?_
  refine ww_iload C 4 rfl dX3_tallyRing_100 ?_
  refine ww_if_ne (tgt := 116) C dX3_tallyRing_102 (by decide) (fun hc => ?_) (fun hc => ?_)
  · have h := h.1 hc
    refine ww_iconst (v := 1) C dX3_tallyRing_116 (by decide) ?_
    refine ww_goto (tgt := 121) C dX3_tallyRing_117 (by decide) ?_
    refine ww_istore (lv' := [(4, .int 1), (3, .int t0), (0, .ref 52), (1, .ref b1), (2, .int a2), (5, .int x5), (6, .int x6), (7, .int x7), (8, .int x8), (9, .int x9)]) C dX3_tallyRing_121 (by decide) rfl ?_
    refine ww_iinc (v := (x8 + 1)) (lv' := [(8, .int (x8 + 1)), (4, .int 1), (3, .int t0), (0, .ref 52), (1, .ref b1), (2, .int a2), (5, .int x5), (6, .int x6), (7, .int x7), (9, .int x9)]) C 8 rfl dX3_tallyRing_123 rfl (by decide) rfl ?_
    refine ww_goto (tgt := 46) C dX3_tallyRing_126 (by decide) ?_
    refine ww_sub [3, 4, 5, 2, 1, 6, 7, 8, 0] rfl ?_
    exact hRc _ _ _ _ h
  · have h := h.2 hc
    refine ww_aload_n C 2 rfl dX3_tallyRing_105 ?_
    refine ww_iload C 7 rfl dX3_tallyRing_106 ?_
    refine ww_iload C 9 rfl dX3_tallyRing_108 ?_
    refine ww_vi (n := 2) (As := [.int x7, .int x9]) (rest := []) C (c_X4_isAhead hb1 h) (row_o hb1) rfl nq_611 nq_510 nq_511 nq_19 nq_512 (by decide +kernel) rfl rfl ⟨Nat.le_of_ble_eq_true rfl, Nat.le_of_ble_eq_true rfl, Nat.le_of_ble_eq_true rfl, Nat.le_of_ble_eq_true rfl⟩ (Nat.le_of_ble_eq_true rfl) dX3_tallyRing_110 (fun r110 σ110 h => ?_)
    refine ww_if_eq (tgt := 120) C dX3_tallyRing_113 (by decide) (fun hc => ?_) (fun hc => ?_)
    · have h := h.1 hc
      refine ww_iconst (v := 0) C dX3_tallyRing_120 (by decide) ?_
      refine ww_istore (lv' := [(4, .int 0), (3, .int t0), (0, .ref 52), (1, .ref b1), (2, .int a2), (5, .int x5), (6, .int x6), (7, .int x7), (8, .int x8), (9, .int x9)]) C dX3_tallyRing_121 (by decide) rfl ?_
      refine ww_iinc (v := (x8 + 1)) (lv' := [(8, .int (x8 + 1)), (4, .int 0), (3, .int t0), (0, .ref 52), (1, .ref b1), (2, .int a2), (5, .int x5), (6, .int x6), (7, .int x7), (9, .int x9)]) C 8 rfl dX3_tallyRing_123 rfl (by decide) rfl ?_
      refine ww_goto (tgt := 46) C dX3_tallyRing_126 (by decide) ?_
      refine ww_sub [3, 4, 5, 2, 1, 6, 7, 8, 0] rfl ?_
      exact hRc _ _ _ _ h
    · have h := h.2 hc
      refine ww_iconst (v := 1) C dX3_tallyRing_116 (by decide) ?_
      refine ww_goto (tgt := 121) C dX3_tallyRing_117 (by decide) ?_
      refine ww_istore (lv' := [(4, .int 1), (3, .int t0), (0, .ref 52), (1, .ref b1), (2, .int a2), (5, .int x5), (6, .int x6), (7, .int x7), (8, .int x8), (9, .int x9)]) C dX3_tallyRing_121 (by decide) rfl ?_
      refine ww_iinc (v := (x8 + 1)) (lv' := [(8, .int (x8 + 1)), (4, .int 1), (3, .int t0), (0, .ref 52), (1, .ref b1), (2, .int a2), (5, .int x5), (6, .int x6), (7, .int x7), (9, .int x9)]) C 8 rfl dX3_tallyRing_123 rfl (by decide) rfl ?_
      refine ww_goto (tgt := 46) C dX3_tallyRing_126 (by decide) ?_
      refine ww_sub [3, 4, 5, 2, 1, 6, 7, 8, 0] rfl ?_
      exact hRc _ _ _ _ h
set_option maxRecDepth 100000 in
set_option maxHeartbeats 4000000 in
theorem w_X3_tallyRing_J94 {p : Program} {l : Launch} {e : Env} {s : State} {m : MethodId} {args : Array Value} {below : List Frame} {meth : Method} {c : Code} {dC : Nat → ClassId} {dI : Nat → Nat → Nat} {cA : Nat → ClassId} {A : Nat → Prop} {al : Nat → Nat} {sh : List Kd} (C : Fx p s m args c cX3_tallyRing 10 yX3_tallyRing.cls dC dI cA A al) (hr : meth.sig.returnType = none) (hlk : meth.locks = false) (hs : ShC sh) {b1 : Nat} (hb1 : isRow sh b1) {a2 : Int32} {Q : St → Prop} {x5 : Int32} {x6 : Int32} {x7 : Int32} {K129 : St → Int32 → Int32 → Prop} (hK129 : ∀ (σ : St) (x3 : Int32) (x4 : Int32), K129 σ x3 x4 → WW p l e (RM 1) s m args below meth c (MQ below (va_Qv Q (WPost dC dI cA al sh A) A) args s 0 0 A) dC dI cA A 10 0 0 al sh 129 [(0, .ref 52), (1, .ref b1), (2, .int a2), (3, .int x3), (4, .int x4), (5, .int x5), (6, .int x6)] [] σ) {Rc : St → Int32 → Int32 → Int32 → Prop} (hRc : ∀ (σ : St) (x3 : Int32) (x4 : Int32) (x8 : Int32), Rc σ x3 x4 x8 → WW p l e (RM 1) s m args below meth c (MQ below (va_Qv Q (WPost dC dI cA al sh A) A) args s 0 0 A) dC dI cA A 10 0 0 al sh 46 [(0, .ref 52), (1, .ref b1), (2, .int a2), (3, .int x3), (4, .int x4), (5, .int x5), (6, .int x6), (7, .int x7), (8, .int x8)] [] σ) {σ : St} {x4 : Int32} {x8 : Int32} {x9 : Int32} (h : m_X3_tallyRing_J94 b1 a2 Q x5 x6 x7 K129 Rc σ x4 x8 x9) : WW p l e (RM 1) s m args below meth c (MQ below (va_Qv Q (WPost dC dI cA al sh A) A) args s 0 0 A) dC dI cA A 10 0 0 al sh 94 [(0, .ref 52), (1, .ref b1), (2, .int a2), (4, .int x4), (5, .int x5), (6, .int x6), (7, .int x7), (8, .int x8), (9, .int x9)] [] σ := by
  unfold m_X3_tallyRing_J94 at h
  refine ww_iconst (v := 1) C dX3_tallyRing_94 (by decide) ?_
  refine ww_goto (tgt := 99) C dX3_tallyRing_95 (by decide) ?_
  exact w_X3_tallyRing_J99 (Q := Q) (a2 := a2) C hr hlk hs hb1 hK129 hRc h
set_option maxRecDepth 100000 in
set_option maxHeartbeats 4000000 in
theorem w_X3_tallyRing_J98 {p : Program} {l : Launch} {e : Env} {s : State} {m : MethodId} {args : Array Value} {below : List Frame} {meth : Method} {c : Code} {dC : Nat → ClassId} {dI : Nat → Nat → Nat} {cA : Nat → ClassId} {A : Nat → Prop} {al : Nat → Nat} {sh : List Kd} (C : Fx p s m args c cX3_tallyRing 10 yX3_tallyRing.cls dC dI cA A al) (hr : meth.sig.returnType = none) (hlk : meth.locks = false) (hs : ShC sh) {b1 : Nat} (hb1 : isRow sh b1) {a2 : Int32} {Q : St → Prop} {x5 : Int32} {x6 : Int32} {x7 : Int32} {K129 : St → Int32 → Int32 → Prop} (hK129 : ∀ (σ : St) (x3 : Int32) (x4 : Int32), K129 σ x3 x4 → WW p l e (RM 1) s m args below meth c (MQ below (va_Qv Q (WPost dC dI cA al sh A) A) args s 0 0 A) dC dI cA A 10 0 0 al sh 129 [(0, .ref 52), (1, .ref b1), (2, .int a2), (3, .int x3), (4, .int x4), (5, .int x5), (6, .int x6)] [] σ) {Rc : St → Int32 → Int32 → Int32 → Prop} (hRc : ∀ (σ : St) (x3 : Int32) (x4 : Int32) (x8 : Int32), Rc σ x3 x4 x8 → WW p l e (RM 1) s m args below meth c (MQ below (va_Qv Q (WPost dC dI cA al sh A) A) args s 0 0 A) dC dI cA A 10 0 0 al sh 46 [(0, .ref 52), (1, .ref b1), (2, .int a2), (3, .int x3), (4, .int x4), (5, .int x5), (6, .int x6), (7, .int x7), (8, .int x8)] [] σ) {σ : St} {x4 : Int32} {x8 : Int32} {x9 : Int32} (h : m_X3_tallyRing_J98 b1 a2 Q x5 x6 x7 K129 Rc σ x4 x8 x9) : WW p l e (RM 1) s m args below meth c (MQ below (va_Qv Q (WPost dC dI cA al sh A) A) args s 0 0 A) dC dI cA A 10 0 0 al sh 98 [(0, .ref 52), (1, .ref b1), (2, .int a2), (4, .int x4), (5, .int x5), (6, .int x6), (7, .int x7), (8, .int x8), (9, .int x9)] [] σ := by
  unfold m_X3_tallyRing_J98 at h
  refine ww_iconst (v := 0) C dX3_tallyRing_98 (by decide) ?_
  exact w_X3_tallyRing_J99 (Q := Q) (a2 := a2) C hr hlk hs hb1 hK129 hRc h
set_option maxRecDepth 100000 in
set_option maxHeartbeats 4000000 in
theorem w_X3_tallyRing_L46b {p : Program} {l : Launch} {e : Env} {s : State} {m : MethodId} {args : Array Value} {below : List Frame} {meth : Method} {c : Code} {dC : Nat → ClassId} {dI : Nat → Nat → Nat} {cA : Nat → ClassId} {A : Nat → Prop} {al : Nat → Nat} {sh : List Kd} (C : Fx p s m args c cX3_tallyRing 10 yX3_tallyRing.cls dC dI cA A al) (hr : meth.sig.returnType = none) (hlk : meth.locks = false) (hs : ShC sh) {b1 : Nat} (hb1 : isRow sh b1) {a2 : Int32} {Q : St → Prop} {x5 : Int32} {x6 : Int32} {x7 : Int32} {K129 : St → Int32 → Int32 → Prop} (hK129 : ∀ (σ : St) (x3 : Int32) (x4 : Int32), K129 σ x3 x4 → WW p l e (RM 1) s m args below meth c (MQ below (va_Qv Q (WPost dC dI cA al sh A) A) args s 0 0 A) dC dI cA A 10 0 0 al sh 129 [(0, .ref 52), (1, .ref b1), (2, .int a2), (3, .int x3), (4, .int x4), (5, .int x5), (6, .int x6)] [] σ) {Rc : St → Int32 → Int32 → Int32 → Prop} (hRc : ∀ (σ : St) (x3 : Int32) (x4 : Int32) (x8 : Int32), Rc σ x3 x4 x8 → WW p l e (RM 1) s m args below meth c (MQ below (va_Qv Q (WPost dC dI cA al sh A) A) args s 0 0 A) dC dI cA A 10 0 0 al sh 46 [(0, .ref 52), (1, .ref b1), (2, .int a2), (3, .int x3), (4, .int x4), (5, .int x5), (6, .int x6), (7, .int x7), (8, .int x8)] [] σ) {σ : St} {x3 : Int32} {x4 : Int32} {x8 : Int32} (h : m_X3_tallyRing_L46b b1 a2 Q x5 x6 x7 K129 Rc σ x3 x4 x8) : WW p l e (RM 1) s m args below meth c (MQ below (va_Qv Q (WPost dC dI cA al sh A) A) args s 0 0 A) dC dI cA A 10 0 0 al sh 46 [(0, .ref 52), (1, .ref b1), (2, .int a2), (3, .int x3), (4, .int x4), (5, .int x5), (6, .int x6), (7, .int x7), (8, .int x8)] [] σ := by
  unfold m_X3_tallyRing_L46b at h
  refine ww_iload C 8 rfl dX3_tallyRing_46 ?_
  refine ww_iload_n C 2 rfl dX3_tallyRing_48 ?_
  refine ww_icmp_ge (tgt := 129) C dX3_tallyRing_49 (by decide) (fun hc => ?_) (fun hc => ?_)
  · have h := h.1 hc
    refine ww_sub [0, 1, 2, 3, 4, 5, 6] rfl ?_
    exact hK129 _ _ _ h
  · have h := h.2 hc
    refine ww_aload_n C 0 rfl dX3_tallyRing_52 ?_
    refine ww_getR C (shc_52 hs) rfl inG3 1 (by decide) nq_103 rfl dX3_tallyRing_53 ?_
    refine ww_aload_n C 0 rfl dX3_tallyRing_56 ?_
    refine ww_getR C (shc_52 hs) rfl inG3 6 (by decide) nq_107 rfl dX3_tallyRing_57 ?_
    refine ww_iload C 8 rfl dX3_tallyRing_60 ?_
    refine ww_iald C (shc_57 hs) h.1 dX3_tallyRing_62 ?_
    have h := h.2
    refine ww_iald C (shc_53 hs) h.1 dX3_tallyRing_63 ?_
    have h := h.2
    refine ww_nmI h (fun y64 h => ?_)
    refine ww_istore (lv' := [(9, .int y64), (0, .ref 52), (1, .ref b1), (2, .int a2), (3, .int x3), (4, .int x4), (5, .int x5), (6, .int x6), (7, .int x7), (8, .int x8)]) C dX3_tallyRing_64 (by decide) rfl ?_
    refine ww_iload_n C 4 rfl dX3_tallyRing_66 ?_
    refine ww_if_ne (tgt := 94) C dX3_tallyRing_67 (by decide) (fun hc => ?_) (fun hc => ?_)
    · have h := h.1 hc
      refine ww_sub [1, 2, 3, 5, 6, 7, 8, 9, 0] rfl ?_
      exact w_X3_tallyRing_J94 (Q := Q) (a2 := a2) C hr hlk hs hb1 hK129 hRc h
    · have h := h.2 hc
      refine ww_iload C 7 rfl dX3_tallyRing_70 ?_
      refine ww_iload C 9 rfl dX3_tallyRing_72 ?_
      refine ww_icmp_eq (tgt := 98) C dX3_tallyRing_74 (by decide) (fun hc => ?_) (fun hc => ?_)
      · have h := h.1 hc
        refine ww_sub [1, 2, 3, 5, 6, 7, 8, 9, 0] rfl ?_
        exact w_X3_tallyRing_J98 (Q := Q) (a2 := a2) C hr hlk hs hb1 hK129 hRc h
      · have h := h.2 hc
        refine ww_aload_n C 2 rfl dX3_tallyRing_77 ?_
        refine ww_getRN C (row_o hb1) rfl inG4 2 (by decide) (List.mem_of_getElem? (i := 19) rfl) rfl dX3_tallyRing_78 ?_
        refine ww_iload C 8 rfl dX3_tallyRing_81 ?_
        refine ww_iald C (row_2 hb1) h.1 dX3_tallyRing_83 ?_
        have h := h.2
        refine ww_aload_n C 2 rfl dX3_tallyRing_84 ?_
        refine ww_iload C 0 rfl dX3_tallyRing_85 ?_
        refine ww_vi (n := 1) (As := [.int y64]) (rest := [.int (σ.1 (b1 + 2) x7.toNatClampNeg)]) C (c_X4_heldAt hb1 h) (row_o hb1) rfl nq_565 nq_566 nq_567 nq_19 nq_568 (by decide +kernel) rfl rfl ⟨Nat.le_of_ble_eq_true rfl, Nat.le_of_ble_eq_true rfl, Nat.le_of_ble_eq_true rfl, Nat.le_of_ble_eq_true rfl⟩ (Nat.le_of_ble_eq_true rfl) dX3_tallyRing_87 (fun r87 σ87 h => ?_)
        refine ww_iand C dX3_tallyRing_90 ?_
        refine ww_if_eq (tgt := 98) C dX3_tallyRing_91 (by decide) (fun hc => ?_) (fun hc => ?_)
        · have h := h.1 hc
          refine ww_sub [1, 2, 3, 5, 6, 7, 8, 9, 0] rfl ?_
          exact w_X3_tallyRing_J98 (Q := Q) (a2 := a2) C hr hlk hs hb1 hK129 hRc h
        · have h := h.2 hc
          refine ww_sub [1, 2, 3, 5, 6, 7, 8, 9, 0] rfl ?_
          exact w_X3_tallyRing_J94 (Q := Q) (a2 := a2) C hr hlk hs hb1 hK129 hRc h
set_option maxRecDepth 100000 in
set_option maxHeartbeats 4000000 in
theorem w_X3_tallyRing_L46 {p : Program} {l : Launch} {e : Env} {s : State} {m : MethodId} {args : Array Value} {below : List Frame} {meth : Method} {c : Code} {dC : Nat → ClassId} {dI : Nat → Nat → Nat} {cA : Nat → ClassId} {A : Nat → Prop} {al : Nat → Nat} {sh : List Kd} (C : Fx p s m args c cX3_tallyRing 10 yX3_tallyRing.cls dC dI cA A al) (hr : meth.sig.returnType = none) (hlk : meth.locks = false) (hs : ShC sh) {b1 : Nat} (hb1 : isRow sh b1) {a2 : Int32} {Q : St → Prop} {x5 : Int32} {x6 : Int32} {x7 : Int32} {K129 : St → Int32 → Int32 → Prop} (hK129 : ∀ (σ : St) (x3 : Int32) (x4 : Int32), K129 σ x3 x4 → WW p l e (RM 1) s m args below meth c (MQ below (va_Qv Q (WPost dC dI cA al sh A) A) args s 0 0 A) dC dI cA A 10 0 0 al sh 129 [(0, .ref 52), (1, .ref b1), (2, .int a2), (3, .int x3), (4, .int x4), (5, .int x5), (6, .int x6)] [] σ) : ∀ (f : Nat) (σ : St) (x3 : Int32) (x4 : Int32) (x8 : Int32), m_X3_tallyRing_L46 b1 a2 Q x5 x6 x7 K129 f σ x3 x4 x8 → WW p l e (RM 1) s m args below meth c (MQ below (va_Qv Q (WPost dC dI cA al sh A) A) args s 0 0 A) dC dI cA A 10 0 0 al sh 46 [(0, .ref 52), (1, .ref b1), (2, .int a2), (3, .int x3), (4, .int x4), (5, .int x5), (6, .int x6), (7, .int x7), (8, .int x8)] [] σ := by
  intro f
  induction f with
  | zero => intro σ x3 x4 x8 h; exact False.elim h
  | succ f ih => intro σ x3 x4 x8 h; exact w_X3_tallyRing_L46b (Q := Q) (a2 := a2) C hr hlk hs hb1 hK129 ih h
set_option maxRecDepth 100000 in
set_option maxHeartbeats 4000000 in
theorem w_X3_tallyRing_J129 {p : Program} {l : Launch} {e : Env} {s : State} {m : MethodId} {args : Array Value} {below : List Frame} {meth : Method} {c : Code} {dC : Nat → ClassId} {dI : Nat → Nat → Nat} {cA : Nat → ClassId} {A : Nat → Prop} {al : Nat → Nat} {sh : List Kd} (C : Fx p s m args c cX3_tallyRing 10 yX3_tallyRing.cls dC dI cA A al) (hr : meth.sig.returnType = none) (hlk : meth.locks = false) (hs : ShC sh) {b1 : Nat} (hb1 : isRow sh b1) {a2 : Int32} {Q : St → Prop} {K135 : St → Int32 → Int32 → Int32 → Prop} (hK135 : ∀ (σ : St) (x3 : Int32) (x4 : Int32) (x5 : Int32), K135 σ x3 x4 x5 → WW p l e (RM 1) s m args below meth c (MQ below (va_Qv Q (WPost dC dI cA al sh A) A) args s 0 0 A) dC dI cA A 10 0 0 al sh 135 [(0, .ref 52), (2, .int a2), (3, .int x3), (4, .int x4), (5, .int x5)] [] σ) {Rc : St → Int32 → Int32 → Int32 → Int32 → Prop} (hRc : ∀ (σ : St) (x3 : Int32) (x4 : Int32) (x5 : Int32) (x6 : Int32), Rc σ x3 x4 x5 x6 → WW p l e (RM 1) s m args below meth c (MQ below (va_Qv Q (WPost dC dI cA al sh A) A) args s 0 0 A) dC dI cA A 10 0 0 al sh 11 [(0, .ref 52), (1, .ref b1), (2, .int a2), (3, .int x3), (4, .int x4), (5, .int x5), (6, .int x6)] [] σ) {σ : St} {x3 : Int32} {x4 : Int32} {x5 : Int32} {x6 : Int32} (h : m_X3_tallyRing_J129 b1 a2 Q K135 Rc σ x3 x4 x5 x6) : WW p l e (RM 1) s m args below meth c (MQ below (va_Qv Q (WPost dC dI cA al sh A) A) args s 0 0 A) dC dI cA A 10 0 0 al sh 129 [(0, .ref 52), (1, .ref b1), (2, .int a2), (3, .int x3), (4, .int x4), (5, .int x5), (6, .int x6)] [] σ := by
  unfold m_X3_tallyRing_J129 at h
  refine ww_iinc (v := (x6 + 1)) (lv' := [(6, .int (x6 + 1)), (0, .ref 52), (1, .ref b1), (2, .int a2), (3, .int x3), (4, .int x4), (5, .int x5)]) C 6 rfl dX3_tallyRing_129 rfl (by decide) rfl ?_
  refine ww_goto (tgt := 11) C dX3_tallyRing_132 (by decide) ?_
  refine ww_sub [1, 2, 3, 4, 5, 6, 0] rfl ?_
  exact hRc _ _ _ _ _ h
set_option maxRecDepth 100000 in
set_option maxHeartbeats 4000000 in
theorem w_X3_tallyRing_L11b {p : Program} {l : Launch} {e : Env} {s : State} {m : MethodId} {args : Array Value} {below : List Frame} {meth : Method} {c : Code} {dC : Nat → ClassId} {dI : Nat → Nat → Nat} {cA : Nat → ClassId} {A : Nat → Prop} {al : Nat → Nat} {sh : List Kd} (C : Fx p s m args c cX3_tallyRing 10 yX3_tallyRing.cls dC dI cA A al) (hr : meth.sig.returnType = none) (hlk : meth.locks = false) (hs : ShC sh) {b1 : Nat} (hb1 : isRow sh b1) {a2 : Int32} {Q : St → Prop} {K135 : St → Int32 → Int32 → Int32 → Prop} (hK135 : ∀ (σ : St) (x3 : Int32) (x4 : Int32) (x5 : Int32), K135 σ x3 x4 x5 → WW p l e (RM 1) s m args below meth c (MQ below (va_Qv Q (WPost dC dI cA al sh A) A) args s 0 0 A) dC dI cA A 10 0 0 al sh 135 [(0, .ref 52), (2, .int a2), (3, .int x3), (4, .int x4), (5, .int x5)] [] σ) {Rc : St → Int32 → Int32 → Int32 → Int32 → Prop} (hRc : ∀ (σ : St) (x3 : Int32) (x4 : Int32) (x5 : Int32) (x6 : Int32), Rc σ x3 x4 x5 x6 → WW p l e (RM 1) s m args below meth c (MQ below (va_Qv Q (WPost dC dI cA al sh A) A) args s 0 0 A) dC dI cA A 10 0 0 al sh 11 [(0, .ref 52), (1, .ref b1), (2, .int a2), (3, .int x3), (4, .int x4), (5, .int x5), (6, .int x6)] [] σ) {σ : St} {x3 : Int32} {x4 : Int32} {x5 : Int32} {x6 : Int32} (h : m_X3_tallyRing_L11b b1 a2 Q K135 Rc σ x3 x4 x5 x6) : WW p l e (RM 1) s m args below meth c (MQ below (va_Qv Q (WPost dC dI cA al sh A) A) args s 0 0 A) dC dI cA A 10 0 0 al sh 11 [(0, .ref 52), (1, .ref b1), (2, .int a2), (3, .int x3), (4, .int x4), (5, .int x5), (6, .int x6)] [] σ := by
  unfold m_X3_tallyRing_L11b at h
  refine ww_iload C 6 rfl dX3_tallyRing_11 ?_
  refine ww_iload_n C 2 rfl dX3_tallyRing_13 ?_
  refine ww_icmp_ge (tgt := 135) C dX3_tallyRing_14 (by decide) (fun hc => ?_) (fun hc => ?_)
  · have h := h.1 hc
    refine ww_sub [0, 2, 3, 4, 5] rfl ?_
    exact hK135 _ _ _ _ h
  · have h := h.2 hc
    refine ww_aload_n C 0 rfl dX3_tallyRing_17 ?_
    refine ww_getR C (shc_52 hs) rfl inG3 1 (by decide) nq_103 rfl dX3_tallyRing_18 ?_
    refine ww_aload_n C 0 rfl dX3_tallyRing_21 ?_
    refine ww_getR C (shc_52 hs) rfl inG3 6 (by decide) nq_107 rfl dX3_tallyRing_22 ?_
    refine ww_iload C 6 rfl dX3_tallyRing_25 ?_
    refine ww_iald C (shc_57 hs) h.1 dX3_tallyRing_27 ?_
    have h := h.2
    refine ww_iald C (shc_53 hs) h.1 dX3_tallyRing_28 ?_
    have h := h.2
    refine ww_nmI h (fun y29 h => ?_)
    refine ww_istore (lv' := [(7, .int y29), (0, .ref 52), (1, .ref b1), (2, .int a2), (3, .int x3), (4, .int x4), (5, .int x5), (6, .int x6)]) C dX3_tallyRing_29 (by decide) rfl ?_
    refine ww_iload C 6 rfl dX3_tallyRing_31 ?_
    refine ww_bipush (v := 100) C dX3_tallyRing_33 (by decide) ?_
    refine ww_imul C dX3_tallyRing_35 ?_
    refine ww_iload C 0 rfl dX3_tallyRing_36 ?_
    refine ww_iadd C dX3_tallyRing_38 ?_
    refine ww_iconst (v := 1) C dX3_tallyRing_39 (by decide) ?_
    refine ww_iadd C dX3_tallyRing_40 ?_
    refine ww_nmI h (fun y41 h => ?_)
    refine ww_istore (lv' := [(5, .int y41), (7, .int y29), (0, .ref 52), (1, .ref b1), (2, .int a2), (3, .int x3), (4, .int x4), (6, .int x6)]) C dX3_tallyRing_41 (by decide) rfl ?_
    refine ww_iconst (v := 0) C dX3_tallyRing_43 (by decide) ?_
    refine ww_istore (lv' := [(8, .int 0), (5, .int y41), (7, .int y29), (0, .ref 52), (1, .ref b1), (2, .int a2), (3, .int x3), (4, .int x4), (6, .int x6)]) C dX3_tallyRing_44 (by decide) rfl ?_
    refine ww_sub [3, 4, 5, 6, 7, 1, 8, 2, 0] rfl ?_
    obtain ⟨f, h⟩ := h
    exact w_X3_tallyRing_L46 (Q := Q) (a2 := a2) C hr hlk hs hb1 (fun σ x3 x4 h => by exact w_X3_tallyRing_J129 (Q := Q) (a2 := a2) C hr hlk hs hb1 hK135 hRc h) f _ _ _ _ h
set_option maxRecDepth 100000 in
set_option maxHeartbeats 4000000 in
theorem w_X3_tallyRing_L11 {p : Program} {l : Launch} {e : Env} {s : State} {m : MethodId} {args : Array Value} {below : List Frame} {meth : Method} {c : Code} {dC : Nat → ClassId} {dI : Nat → Nat → Nat} {cA : Nat → ClassId} {A : Nat → Prop} {al : Nat → Nat} {sh : List Kd} (C : Fx p s m args c cX3_tallyRing 10 yX3_tallyRing.cls dC dI cA A al) (hr : meth.sig.returnType = none) (hlk : meth.locks = false) (hs : ShC sh) {b1 : Nat} (hb1 : isRow sh b1) {a2 : Int32} {Q : St → Prop} {K135 : St → Int32 → Int32 → Int32 → Prop} (hK135 : ∀ (σ : St) (x3 : Int32) (x4 : Int32) (x5 : Int32), K135 σ x3 x4 x5 → WW p l e (RM 1) s m args below meth c (MQ below (va_Qv Q (WPost dC dI cA al sh A) A) args s 0 0 A) dC dI cA A 10 0 0 al sh 135 [(0, .ref 52), (2, .int a2), (3, .int x3), (4, .int x4), (5, .int x5)] [] σ) : ∀ (f : Nat) (σ : St) (x3 : Int32) (x4 : Int32) (x5 : Int32) (x6 : Int32), m_X3_tallyRing_L11 b1 a2 Q K135 f σ x3 x4 x5 x6 → WW p l e (RM 1) s m args below meth c (MQ below (va_Qv Q (WPost dC dI cA al sh A) A) args s 0 0 A) dC dI cA A 10 0 0 al sh 11 [(0, .ref 52), (1, .ref b1), (2, .int a2), (3, .int x3), (4, .int x4), (5, .int x5), (6, .int x6)] [] σ := by
  intro f
  induction f with
  | zero => intro σ x3 x4 x5 x6 h; exact False.elim h
  | succ f ih => intro σ x3 x4 x5 x6 h; exact w_X3_tallyRing_L11b (Q := Q) (a2 := a2) C hr hlk hs hb1 hK135 ih h
set_option maxRecDepth 100000 in
set_option maxHeartbeats 4000000 in
theorem w_X3_tallyRing_J192 {p : Program} {l : Launch} {e : Env} {s : State} {m : MethodId} {args : Array Value} {below : List Frame} {meth : Method} {c : Code} {dC : Nat → ClassId} {dI : Nat → Nat → Nat} {cA : Nat → ClassId} {A : Nat → Prop} {al : Nat → Nat} {sh : List Kd} (C : Fx p s m args c cX3_tallyRing 10 yX3_tallyRing.cls dC dI cA A al) (hr : meth.sig.returnType = none) (hlk : meth.locks = false) (hs : ShC sh) {b1 : Nat} (hb1 : isRow sh b1) {a2 : Int32} {Q : St → Prop} {σ : St} {x3 : Int32} {x4 : Int32} {x5 : Int32} {x6 : Int32} {t1 : Int32} {t2 : Int32} {t3 : Int32} (h : m_X3_tallyRing_J192 b1 a2 Q σ x3 x4 x5 x6 t1 t2 t3) : WW p l e (RM 1) s m args below meth c (MQ below (va_Qv Q (WPost dC dI cA al sh A) A) args s 0 0 A) dC dI cA A 10 0 0 al sh 192 [(0, .ref 52), (3, .int x3), (4, .int x4), (5, .int x5), (6, .int x6)] [.int t3, .int t2, .int t1, .ref 56] σ := by
  unfold m_X3_tallyRing_J192 at h
  refine ww_iadd C dX3_tallyRing_192 ?_
  refine ww_iast C (shc_56 hs) h.1 dX3_tallyRing_193 h.2 (fun σ193 h => ?_)
  refine ww_iload_n C 1 rfl dX3_tallyRing_194 ?_
  refine ww_if_ne (tgt := 243) C dX3_tallyRing_195 (by decide) (fun hc => ?_) (fun hc => ?_)
  · have h := h.1 hc
    exact ww_vret C hr hlk h dX3_tallyRing_243
  · have h := h.2 hc
    refine ww_iload C 2 rfl dX3_tallyRing_198 ?_
    refine ww_if_ne (tgt := 243) C dX3_tallyRing_200 (by decide) (fun hc => ?_) (fun hc => ?_)
    · have h := h.1 hc
      exact ww_vret C hr hlk h dX3_tallyRing_243
    · have h := h.2 hc
      refine ww_aload_n C 0 rfl dX3_tallyRing_203 ?_
      refine ww_getR C (shc_52 hs) rfl inG3 4 (by decide) nq_106 rfl dX3_tallyRing_204 ?_
      refine ww_iload C 4 rfl dX3_tallyRing_207 ?_
      refine ww_iconst (v := 3) C dX3_tallyRing_209 (by decide) ?_
      refine ww_iadd C dX3_tallyRing_210 ?_
      refine ww_dup2 C rfl rfl dX3_tallyRing_211 ?_
      refine ww_iald C (shc_56 hs) h.1 dX3_tallyRing_212 ?_
      have h := h.2
      refine ww_iconst (v := 1) C dX3_tallyRing_213 (by decide) ?_
      refine ww_iadd C dX3_tallyRing_214 ?_
      refine ww_iast C (shc_56 hs) h.1 dX3_tallyRing_215 h.2 (fun σ215 h => ?_)
      refine ww_aload_n C 0 rfl dX3_tallyRing_216 ?_
      refine ww_aload_n C 0 rfl dX3_tallyRing_217 ?_
      refine ww_getI C (shc_52 hs) rfl inG3 5 (by decide) nq_108 rfl dX3_tallyRing_218 ?_
      refine ww_bipush (v := -9) C dX3_tallyRing_221 (by decide) ?_
      refine ww_icmp_ne (tgt := 231) C dX3_tallyRing_223 (by decide) (fun hc => ?_) (fun hc => ?_)
      · have h := h.1 hc
        refine ww_aload_n C 0 rfl dX3_tallyRing_231 ?_
        refine ww_getI C (shc_52 hs) rfl inG3 5 (by decide) nq_108 rfl dX3_tallyRing_232 ?_
        refine ww_iload C 3 rfl dX3_tallyRing_235 ?_
        refine ww_mmin C nq_607 nq_608 nq_609 nq_610 ⟨Nat.le_of_ble_eq_true rfl, Nat.le_of_ble_eq_true rfl, Nat.le_of_ble_eq_true rfl, Nat.le_of_ble_eq_true rfl⟩ dX3_tallyRing_237 ?_
        refine ww_putI C (shc_52 hs) rfl inG3 5 (by decide) nq_108 tyX3 tyX3_ok nmX3 rfl (by decide +kernel) rfl dX3_tallyRing_240 h (fun σ240 h => ?_)
        exact ww_vret C hr hlk h dX3_tallyRing_243
      · have h := h.2 hc
        refine ww_iload C 3 rfl dX3_tallyRing_226 ?_
        refine ww_goto (tgt := 240) C dX3_tallyRing_228 (by decide) ?_
        refine ww_putI C (shc_52 hs) rfl inG3 5 (by decide) nq_108 tyX3 tyX3_ok nmX3 rfl (by decide +kernel) rfl dX3_tallyRing_240 h (fun σ240 h => ?_)
        exact ww_vret C hr hlk h dX3_tallyRing_243
set_option maxRecDepth 100000 in
set_option maxHeartbeats 4000000 in
theorem w_X3_tallyRing_J170 {p : Program} {l : Launch} {e : Env} {s : State} {m : MethodId} {args : Array Value} {below : List Frame} {meth : Method} {c : Code} {dC : Nat → ClassId} {dI : Nat → Nat → Nat} {cA : Nat → ClassId} {A : Nat → Prop} {al : Nat → Nat} {sh : List Kd} (C : Fx p s m args c cX3_tallyRing 10 yX3_tallyRing.cls dC dI cA A al) (hr : meth.sig.returnType = none) (hlk : meth.locks = false) (hs : ShC sh) {b1 : Nat} (hb1 : isRow sh b1) {a2 : Int32} {Q : St → Prop} {σ : St} {x3 : Int32} {x4 : Int32} {x5 : Int32} {x6 : Int32} {t1 : Int32} {t2 : Int32} {t3 : Int32} (h : m_X3_tallyRing_J170 b1 a2 Q σ x3 x4 x5 x6 t1 t2 t3) : WW p l e (RM 1) s m args below meth c (MQ below (va_Qv Q (WPost dC dI cA al sh A) A) args s 0 0 A) dC dI cA A 10 0 0 al sh 170 [(0, .ref 52), (3, .int x3), (4, .int x4), (5, .int x5), (6, .int x6)] [.int t3, .int t2, .int t1, .ref 56] σ := by
  unfold m_X3_tallyRing_J170 at h
  refine ww_iadd C dX3_tallyRing_170 ?_
  refine ww_iast C (shc_56 hs) h.1 dX3_tallyRing_171 h.2 (fun σ171 h => ?_)
  refine ww_aload_n C 0 rfl dX3_tallyRing_172 ?_
  refine ww_getR C (shc_52 hs) rfl inG3 4 (by decide) nq_106 rfl dX3_tallyRing_173 ?_
  refine ww_iload C 4 rfl dX3_tallyRing_176 ?_
  refine ww_iconst (v := 2) C dX3_tallyRing_178 (by decide) ?_
  refine ww_iadd C dX3_tallyRing_179 ?_
  refine ww_dup2 C rfl rfl dX3_tallyRing_180 ?_
  refine ww_iald C (shc_56 hs) h.1 dX3_tallyRing_181 ?_
  have h := h.2
  refine ww_iload C 2 rfl dX3_tallyRing_182 ?_
  refine ww_if_eq (tgt := 191) C dX3_tallyRing_184 (by decide) (fun hc => ?_) (fun hc => ?_)
  · have h := h.1 hc
    refine ww_iconst (v := 0) C dX3_tallyRing_191 (by decide) ?_
    exact w_X3_tallyRing_J192 (Q := Q) (a2 := a2) C hr hlk hs hb1 h
  · have h := h.2 hc
    refine ww_iconst (v := 1) C dX3_tallyRing_187 (by decide) ?_
    refine ww_goto (tgt := 192) C dX3_tallyRing_188 (by decide) ?_
    exact w_X3_tallyRing_J192 (Q := Q) (a2 := a2) C hr hlk hs hb1 h
set_option maxRecDepth 100000 in
set_option maxHeartbeats 4000000 in
theorem w_X3_tallyRing_J135 {p : Program} {l : Launch} {e : Env} {s : State} {m : MethodId} {args : Array Value} {below : List Frame} {meth : Method} {c : Code} {dC : Nat → ClassId} {dI : Nat → Nat → Nat} {cA : Nat → ClassId} {A : Nat → Prop} {al : Nat → Nat} {sh : List Kd} (C : Fx p s m args c cX3_tallyRing 10 yX3_tallyRing.cls dC dI cA A al) (hr : meth.sig.returnType = none) (hlk : meth.locks = false) (hs : ShC sh) {b1 : Nat} (hb1 : isRow sh b1) {a2 : Int32} {Q : St → Prop} {σ : St} {x3 : Int32} {x4 : Int32} {x5 : Int32} (h : m_X3_tallyRing_J135 b1 a2 Q σ x3 x4 x5) : WW p l e (RM 1) s m args below meth c (MQ below (va_Qv Q (WPost dC dI cA al sh A) A) args s 0 0 A) dC dI cA A 10 0 0 al sh 135 [(0, .ref 52), (2, .int a2), (3, .int x3), (4, .int x4), (5, .int x5)] [] σ := by
  unfold m_X3_tallyRing_J135 at h
  refine ww_iload_n C 1 rfl dX3_tallyRing_135 ?_
  refine ww_iconst (v := 4) C dX3_tallyRing_136 (by decide) ?_
  refine ww_imul C dX3_tallyRing_137 ?_
  refine ww_nmI h (fun y138 h => ?_)
  refine ww_istore (lv' := [(6, .int y138), (0, .ref 52), (2, .int a2), (3, .int x3), (4, .int x4), (5, .int x5)]) C dX3_tallyRing_138 (by decide) rfl ?_
  refine ww_aload_n C 1 rfl dX3_tallyRing_140 ?_
  refine ww_getR C (shc_52 hs) rfl inG3 4 (by decide) nq_106 rfl dX3_tallyRing_141 ?_
  refine ww_iload C 0 rfl dX3_tallyRing_144 ?_
  refine ww_dup2 C rfl rfl dX3_tallyRing_146 ?_
  refine ww_iald C (shc_56 hs) h.1 dX3_tallyRing_147 ?_
  have h := h.2
  refine ww_iconst (v := 1) C dX3_tallyRing_148 (by decide) ?_
  refine ww_iadd C dX3_tallyRing_149 ?_
  refine ww_iast C (shc_56 hs) h.1 dX3_tallyRing_150 h.2 (fun σ150 h => ?_)
  refine ww_aload_n C 1 rfl dX3_tallyRing_151 ?_
  refine ww_getR C (shc_52 hs) rfl inG3 4 (by decide) nq_106 rfl dX3_tallyRing_152 ?_
  refine ww_iload C 0 rfl dX3_tallyRing_155 ?_
  refine ww_iconst (v := 1) C dX3_tallyRing_157 (by decide) ?_
  refine ww_iadd C dX3_tallyRing_158 ?_
  refine ww_dup2 C rfl rfl dX3_tallyRing_159 ?_
  refine ww_iald C (shc_56 hs) h.1 dX3_tallyRing_160 ?_
  have h := h.2
  refine ww_iload_n C 3 rfl dX3_tallyRing_161 ?_
  refine ww_if_eq (tgt := 169) C dX3_tallyRing_162 (by decide) (fun hc => ?_) (fun hc => ?_)
  · have h := h.1 hc
    refine ww_iconst (v := 0) C dX3_tallyRing_169 (by decide) ?_
    refine ww_sub [1, 3, 4, 5, 0] rfl ?_
    exact w_X3_tallyRing_J170 (Q := Q) (a2 := a2) C hr hlk hs hb1 h
  · have h := h.2 hc
    refine ww_iconst (v := 1) C dX3_tallyRing_165 (by decide) ?_
    refine ww_goto (tgt := 170) C dX3_tallyRing_166 (by decide) ?_
    refine ww_sub [1, 3, 4, 5, 0] rfl ?_
    exact w_X3_tallyRing_J170 (Q := Q) (a2 := a2) C hr hlk hs hb1 h
set_option maxRecDepth 100000 in
set_option maxHeartbeats 4000000 in
theorem c_X3_tallyRing {l : Launch} {dC : Nat → ClassId} {dI : Nat → Nat → Nat} {cA : Nat → ClassId} {al : Nat → Nat} {sh : List Kd} (hs : ShC sh) {b1 : Nat} (hb1 : isRow sh b1) {σ : St} {a2 : Int32} {Q : St → Prop} (h : m_X3_tallyRing b1 σ a2 Q) : ∀ sz, Met l yX3_tallyRing (wd yX3_tallyRing cX3_tallyRing 10 none) (RM 1) (va_Pc ([.ref 52, .ref b1, .int a2].map (cv al)) (WPre dC dI cA al sh σ sz)) (va_Qv Q (WPost dC dI cA al sh (AW al sh sz)) (AW al sh sz)) 0 0 (AW al sh sz) := by
  refine ww_met (Qc := fun A => va_Qv Q (WPost dC dI cA al sh A) A) (by decide +kernel) (Nat.le_of_ble_eq_true rfl) (fun p e s m args below meth c A C hr hlk => ?_)
  show WW p l e (RM 1) s m args below meth c (MQ below (va_Qv Q (WPost dC dI cA al sh A) A) args s 0 0 A) dC dI cA A 10 0 0 al sh 0 [(0, .ref 52), (1, .ref b1), (2, .int a2)] [] σ
  unfold m_X3_tallyRing at h
  refine ww_iconst (v := 0) C dX3_tallyRing_0 (by decide) ?_
  refine ww_istore_n (lv' := [(3, .int 0), (0, .ref 52), (1, .ref b1), (2, .int a2)]) C dX3_tallyRing_1 rfl (by decide) rfl ?_
  refine ww_iconst (v := 0) C dX3_tallyRing_2 (by decide) ?_
  refine ww_istore (lv' := [(4, .int 0), (3, .int 0), (0, .ref 52), (1, .ref b1), (2, .int a2)]) C dX3_tallyRing_3 (by decide) rfl ?_
  refine ww_iconst (v := 0) C dX3_tallyRing_5 (by decide) ?_
  refine ww_istore (lv' := [(5, .int 0), (4, .int 0), (3, .int 0), (0, .ref 52), (1, .ref b1), (2, .int a2)]) C dX3_tallyRing_6 (by decide) rfl ?_
  refine ww_iconst (v := 0) C dX3_tallyRing_8 (by decide) ?_
  refine ww_istore (lv' := [(6, .int 0), (5, .int 0), (4, .int 0), (3, .int 0), (0, .ref 52), (1, .ref b1), (2, .int a2)]) C dX3_tallyRing_9 (by decide) rfl ?_
  refine ww_sub [4, 5, 6, 3, 2, 1, 0] rfl ?_
  obtain ⟨f, h⟩ := h
  exact w_X3_tallyRing_L11 (Q := Q) (a2 := a2) C hr hlk hs hb1 (fun σ x3 x4 x5 h => by exact w_X3_tallyRing_J135 (Q := Q) (a2 := a2) C hr hlk hs hb1 h) f _ _ _ _ _ h
