set_option maxRecDepth 100000 in
set_option maxHeartbeats 4000000 in
theorem c_X9_close {l : Launch} {dC : Nat → ClassId} {dI : Nat → Nat → Nat} {cA : Nat → ClassId} {al : Nat → Nat} {sh : List Kd} (hs : ShC sh) {σ : St} {a1 : Int32} {Q : St → Prop} (h : m_X9_close σ a1 Q) : ∀ sz, Met l yX9_close (wd yX9_close cX9_close 2 none) (RM 2) (va_Pc ([.ref 61, .int a1].map (cv al)) (WPre dC dI cA al sh σ sz)) (va_Qv Q (WPost dC dI cA al sh (AW al sh sz)) (AW al sh sz)) 0 0 (AW al sh sz) := by
  refine ww_met (Qc := fun A => va_Qv Q (WPost dC dI cA al sh A) A) (by decide +kernel) (Nat.le_of_ble_eq_true rfl) (fun p e s m args below meth c A C hr hlk => ?_)
  show WW p l e (RM 2) s m args below meth c (MQ below (va_Qv Q (WPost dC dI cA al sh A) A) args s 0 0 A) dC dI cA A 2 0 0 al sh 0 [(0, .ref 61), (1, .int a1)] [] σ
  unfold m_X9_close at h
  refine ww_aload_n C 0 rfl dX9_close_0 ?_
  refine ww_aload_n C 0 rfl dX9_close_1 ?_
  refine ww_getR C (shc_61 hs) rfl inG9 25 (by decide) nq_133 rfl dX9_close_2 ?_
  refine ww_iload_n C 1 rfl dX9_close_5 ?_
  refine ww_iconst (v := 1) C dX9_close_6 (by decide) ?_
  refine ww_isub C dX9_close_7 ?_
  refine ww_iald C (shc_74 hs) h.1 dX9_close_8 ?_
  have h := h.2
  refine ww_aload_n C 0 rfl dX9_close_9 ?_
  refine ww_getR C (shc_61 hs) rfl inG9 25 (by decide) nq_133 rfl dX9_close_10 ?_
  refine ww_iconst (v := 0) C dX9_close_13 (by decide) ?_
  refine ww_iald C (shc_74 hs) (by unfold vp_in; decide) dX9_close_14 ?_
  refine ww_vi (n := 2) (As := [.int (σ.1 74 (a1 - 1).toNatClampNeg), .int (σ.1 74 ((0 : Int32).toNatClampNeg))]) (rest := []) C (c_X9_follows hs h) (shc_61 hs) rfl nq_628 nq_629 nq_630 nq_5 nq_631 (by decide +kernel) rfl rfl ⟨Nat.le_of_ble_eq_true rfl, Nat.le_of_ble_eq_true rfl, Nat.le_of_ble_eq_true rfl, Nat.le_of_ble_eq_true rfl⟩ (Nat.le_of_ble_eq_true rfl) dX9_close_15 (fun r15 σ15 h => ?_)
  refine ww_if_eq (tgt := 26) C dX9_close_18 (by decide) (fun hc => ?_) (fun hc => ?_)
  · have h := h.1 hc
    exact ww_vret C hr hlk h dX9_close_26
  · have h := h.2 hc
    refine ww_aload_n C 0 rfl dX9_close_21 ?_
    refine ww_iload_n C 1 rfl dX9_close_22 ?_
    refine ww_vv (n := 1) (As := [.int a1]) (rest := []) C (c_X9_takeRing hs h) (shc_61 hs) rfl nq_640 nq_641 nq_642 nq_5 nq_643 (by decide +kernel) rfl rfl ⟨Nat.le_of_ble_eq_true rfl, Nat.le_of_ble_eq_true rfl, Nat.le_of_ble_eq_true rfl, Nat.le_of_ble_eq_true rfl⟩ (Nat.le_of_ble_eq_true rfl) dX9_close_23 (fun σ23 h => ?_)
    exact ww_vret C hr hlk h dX9_close_26
set_option maxRecDepth 100000 in
set_option maxHeartbeats 4000000 in
theorem c_X9_goesOn {l : Launch} {dC : Nat → ClassId} {dI : Nat → Nat → Nat} {cA : Nat → ClassId} {al : Nat → Nat} {sh : List Kd} (hs : ShC sh) {σ : St} {a1 : Int32} {a2 : Int32} {Q : Int32 → St → Prop} (h : m_X9_goesOn σ a1 a2 Q) : ∀ sz, Met l yX9_goesOn (wd yX9_goesOn cX9_goesOn 3 (some .boolean)) (RM 2) (va_Pc ([.ref 61, .int a1, .int a2].map (cv al)) (WPre dC dI cA al sh σ sz)) (va_Qi Q (WPost dC dI cA al sh (AW al sh sz)) (AW al sh sz)) 0 0 (AW al sh sz) := by
  refine ww_met (Qc := fun A => va_Qi Q (WPost dC dI cA al sh A) A) (by decide +kernel) (Nat.le_of_ble_eq_true rfl) (fun p e s m args below meth c A C hr hlk => ?_)
  show WW p l e (RM 2) s m args below meth c (MQ below (va_Qi Q (WPost dC dI cA al sh A) A) args s 0 0 A) dC dI cA A 3 0 0 al sh 0 [(0, .ref 61), (1, .int a1), (2, .int a2)] [] σ
  unfold m_X9_goesOn at h
  refine ww_iload_n C 2 rfl dX9_goesOn_0 ?_
  refine ww_aload_n C 0 rfl dX9_goesOn_1 ?_
  refine ww_getR C (shc_61 hs) rfl inG9 25 (by decide) nq_133 rfl dX9_goesOn_2 ?_
  refine ww_iconst (v := 0) C dX9_goesOn_5 (by decide) ?_
  refine ww_iald C (shc_74 hs) (by unfold vp_in; decide) dX9_goesOn_6 ?_
  refine ww_icmp_le (tgt := 39) C dX9_goesOn_7 (by decide) (fun hc => ?_) (fun hc => ?_)
  · have h := h.1 hc
    refine ww_iconst (v := 0) C dX9_goesOn_39 (by decide) ?_
    exact ww_zret C hr hlk (by decide) h dX9_goesOn_40
  · have h := h.2 hc
    refine ww_aload_n C 0 rfl dX9_goesOn_10 ?_
    refine ww_aload_n C 0 rfl dX9_goesOn_11 ?_
    refine ww_getR C (shc_61 hs) rfl inG9 25 (by decide) nq_133 rfl dX9_goesOn_12 ?_
    refine ww_iload_n C 1 rfl dX9_goesOn_15 ?_
    refine ww_iconst (v := 1) C dX9_goesOn_16 (by decide) ?_
    refine ww_isub C dX9_goesOn_17 ?_
    refine ww_iald C (shc_74 hs) h.1 dX9_goesOn_18 ?_
    have h := h.2
    refine ww_iload_n C 2 rfl dX9_goesOn_19 ?_
    refine ww_vi (n := 2) (As := [.int (σ.1 74 (a1 - 1).toNatClampNeg), .int a2]) (rest := []) C (c_X9_follows hs h) (shc_61 hs) rfl nq_628 nq_629 nq_630 nq_5 nq_631 (by decide +kernel) rfl rfl ⟨Nat.le_of_ble_eq_true rfl, Nat.le_of_ble_eq_true rfl, Nat.le_of_ble_eq_true rfl, Nat.le_of_ble_eq_true rfl⟩ (Nat.le_of_ble_eq_true rfl) dX9_goesOn_20 (fun r20 σ20 h => ?_)
    refine ww_if_eq (tgt := 39) C dX9_goesOn_23 (by decide) (fun hc => ?_) (fun hc => ?_)
    · have h := h.1 hc
      refine ww_iconst (v := 0) C dX9_goesOn_39 (by decide) ?_
      exact ww_zret C hr hlk (by decide) h dX9_goesOn_40
    · have h := h.2 hc
      refine ww_aload_n C 0 rfl dX9_goesOn_26 ?_
      refine ww_iload_n C 1 rfl dX9_goesOn_27 ?_
      refine ww_iload_n C 2 rfl dX9_goesOn_28 ?_
      refine ww_vi (n := 2) (As := [.int a1, .int a2]) (rest := []) C (c_X9_isUnlike hs h) (shc_61 hs) rfl nq_632 nq_633 nq_634 nq_5 nq_635 (by decide +kernel) rfl rfl ⟨Nat.le_of_ble_eq_true rfl, Nat.le_of_ble_eq_true rfl, Nat.le_of_ble_eq_true rfl, Nat.le_of_ble_eq_true rfl⟩ (Nat.le_of_ble_eq_true rfl) dX9_goesOn_29 (fun r29 σ29 h => ?_)
      refine ww_if_eq (tgt := 39) C dX9_goesOn_32 (by decide) (fun hc => ?_) (fun hc => ?_)
      · have h := h.1 hc
        refine ww_iconst (v := 0) C dX9_goesOn_39 (by decide) ?_
        exact ww_zret C hr hlk (by decide) h dX9_goesOn_40
      · have h := h.2 hc
        refine ww_iconst (v := 1) C dX9_goesOn_35 (by decide) ?_
        refine ww_goto (tgt := 40) C dX9_goesOn_36 (by decide) ?_
        exact ww_zret C hr hlk (by decide) h dX9_goesOn_40
set_option maxRecDepth 100000 in
set_option maxHeartbeats 4000000 in
theorem w_X9_findLonger_L33b {p : Program} {l : Launch} {e : Env} {s : State} {m : MethodId} {args : Array Value} {below : List Frame} {meth : Method} {c : Code} {dC : Nat → ClassId} {dI : Nat → Nat → Nat} {cA : Nat → ClassId} {A : Nat → Prop} {al : Nat → Nat} {sh : List Kd} (C : Fx p s m args c cX9_findLonger 3 yX9_findLonger.cls dC dI cA A al) (hr : meth.sig.returnType = none) (hlk : meth.locks = false) (hs : ShC sh) {Q : St → Prop} {x1 : Int32} {K68 : St → Prop} (hK68 : ∀ (σ : St), K68 σ → WW p l e (RM 3) s m args below meth c (MQ below (va_Qv Q (WPost dC dI cA al sh A) A) args s 0 0 A) dC dI cA A 3 0 0 al sh 68 [(0, .ref 61), (1, .int x1)] [] σ) {Rc : St → Int32 → Prop} (hRc : ∀ (σ : St) (x2 : Int32), Rc σ x2 → WW p l e (RM 3) s m args below meth c (MQ below (va_Qv Q (WPost dC dI cA al sh A) A) args s 0 0 A) dC dI cA A 3 0 0 al sh 33 [(0, .ref 61), (1, .int x1), (2, .int x2)] [] σ) {σ : St} {x2 : Int32} (h : m_X9_findLonger_L33b Q x1 K68 Rc σ x2) : WW p l e (RM 3) s m args below meth c (MQ below (va_Qv Q (WPost dC dI cA al sh A) A) args s 0 0 A) dC dI cA A 3 0 0 al sh 33 [(0, .ref 61), (1, .int x1), (2, .int x2)] [] σ := by
  unfold m_X9_findLonger_L33b at h
  refine ww_iload_n C 2 rfl dX9_findLonger_33 ?_
  refine ww_aload_n C 0 rfl dX9_findLonger_34 ?_
  refine ww_getI C (shc_61 hs) rfl inG9 20 (by decide) nq_579 rfl dX9_findLonger_35 ?_
  refine ww_icmp_ge (tgt := 68) C dX9_findLonger_38 (by decide) (fun hc => ?_) (fun hc => ?_)
  · have h := h.1 hc
    refine ww_sub [0, 1] rfl ?_
    exact hK68 _ h
  · have h := h.2 hc
    refine ww_aload_n C 0 rfl dX9_findLonger_41 ?_
    refine ww_iconst (v := 3) C dX9_findLonger_42 (by decide) ?_
    refine ww_iload_n C 2 rfl dX9_findLonger_43 ?_
    refine ww_vi (n := 2) (As := [.int 3, .int x2]) (rest := []) C (c_X9_goesOn hs h) (shc_61 hs) rfl nq_624 nq_625 nq_626 nq_5 nq_627 (by decide +kernel) rfl rfl ⟨Nat.le_of_ble_eq_true rfl, Nat.le_of_ble_eq_true rfl, Nat.le_of_ble_eq_true rfl, Nat.le_of_ble_eq_true rfl⟩ (Nat.le_of_ble_eq_true rfl) dX9_findLonger_44 (fun r44 σ44 h => ?_)
    refine ww_if_eq (tgt := 62) C dX9_findLonger_47 (by decide) (fun hc => ?_) (fun hc => ?_)
    · have h := h.1 hc
      refine ww_iinc (v := (x2 + 1)) (lv' := [(2, .int (x2 + 1)), (0, .ref 61), (1, .int x1)]) C 2 rfl dX9_findLonger_62 rfl (by decide) rfl ?_
      refine ww_goto (tgt := 33) C dX9_findLonger_65 (by decide) ?_
      refine ww_sub [1, 2, 0] rfl ?_
      exact hRc _ _ h
    · have h := h.2 hc
      refine ww_aload_n C 0 rfl dX9_findLonger_50 ?_
      refine ww_getR C (shc_61 hs) rfl inG9 25 (by decide) nq_133 rfl dX9_findLonger_51 ?_
      refine ww_iconst (v := 3) C dX9_findLonger_54 (by decide) ?_
      refine ww_iload_n C 2 rfl dX9_findLonger_55 ?_
      refine ww_iast C (shc_74 hs) h.1 dX9_findLonger_56 h.2 (fun σ56 h => ?_)
      refine ww_aload_n C 0 rfl dX9_findLonger_57 ?_
      refine ww_iconst (v := 4) C dX9_findLonger_58 (by decide) ?_
      refine ww_vv (n := 1) (As := [.int 4]) (rest := []) C (c_X9_close hs h) (shc_61 hs) rfl nq_636 nq_637 nq_638 nq_5 nq_639 (by decide +kernel) rfl rfl ⟨Nat.le_of_ble_eq_true rfl, Nat.le_of_ble_eq_true rfl, Nat.le_of_ble_eq_true rfl, Nat.le_of_ble_eq_true rfl⟩ (Nat.le_of_ble_eq_true rfl) dX9_findLonger_59 (fun σ59 h => ?_)
      refine ww_iinc (v := (x2 + 1)) (lv' := [(2, .int (x2 + 1)), (0, .ref 61), (1, .int x1)]) C 2 rfl dX9_findLonger_62 rfl (by decide) rfl ?_
      refine ww_goto (tgt := 33) C dX9_findLonger_65 (by decide) ?_
      refine ww_sub [1, 2, 0] rfl ?_
      exact hRc _ _ h
set_option maxRecDepth 100000 in
set_option maxHeartbeats 4000000 in
theorem w_X9_findLonger_L33 {p : Program} {l : Launch} {e : Env} {s : State} {m : MethodId} {args : Array Value} {below : List Frame} {meth : Method} {c : Code} {dC : Nat → ClassId} {dI : Nat → Nat → Nat} {cA : Nat → ClassId} {A : Nat → Prop} {al : Nat → Nat} {sh : List Kd} (C : Fx p s m args c cX9_findLonger 3 yX9_findLonger.cls dC dI cA A al) (hr : meth.sig.returnType = none) (hlk : meth.locks = false) (hs : ShC sh) {Q : St → Prop} {x1 : Int32} {K68 : St → Prop} (hK68 : ∀ (σ : St), K68 σ → WW p l e (RM 3) s m args below meth c (MQ below (va_Qv Q (WPost dC dI cA al sh A) A) args s 0 0 A) dC dI cA A 3 0 0 al sh 68 [(0, .ref 61), (1, .int x1)] [] σ) : ∀ (f : Nat) (σ : St) (x2 : Int32), m_X9_findLonger_L33 Q x1 K68 f σ x2 → WW p l e (RM 3) s m args below meth c (MQ below (va_Qv Q (WPost dC dI cA al sh A) A) args s 0 0 A) dC dI cA A 3 0 0 al sh 33 [(0, .ref 61), (1, .int x1), (2, .int x2)] [] σ := by
  intro f
  induction f with
  | zero => intro σ x2 h; exact False.elim h
  | succ f ih => intro σ x2 h; exact w_X9_findLonger_L33b (Q := Q) C hr hlk hs hK68 ih h
set_option maxRecDepth 100000 in
set_option maxHeartbeats 4000000 in
theorem w_X9_findLonger_J68 {p : Program} {l : Launch} {e : Env} {s : State} {m : MethodId} {args : Array Value} {below : List Frame} {meth : Method} {c : Code} {dC : Nat → ClassId} {dI : Nat → Nat → Nat} {cA : Nat → ClassId} {A : Nat → Prop} {al : Nat → Nat} {sh : List Kd} (C : Fx p s m args c cX9_findLonger 3 yX9_findLonger.cls dC dI cA A al) (hr : meth.sig.returnType = none) (hlk : meth.locks = false) (hs : ShC sh) {Q : St → Prop} {K74 : St → Prop} (hK74 : ∀ (σ : St), K74 σ → WW p l e (RM 3) s m args below meth c (MQ below (va_Qv Q (WPost dC dI cA al sh A) A) args s 0 0 A) dC dI cA A 3 0 0 al sh 74 [] [] σ) {Rc : St → Int32 → Prop} (hRc : ∀ (σ : St) (x1 : Int32), Rc σ x1 → WW p l e (RM 3) s m args below meth c (MQ below (va_Qv Q (WPost dC dI cA al sh A) A) args s 0 0 A) dC dI cA A 3 0 0 al sh 2 [(0, .ref 61), (1, .int x1)] [] σ) {σ : St} {x1 : Int32} (h : m_X9_findLonger_J68 Q K74 Rc σ x1) : WW p l e (RM 3) s m args below meth c (MQ below (va_Qv Q (WPost dC dI cA al sh A) A) args s 0 0 A) dC dI cA A 3 0 0 al sh 68 [(0, .ref 61), (1, .int x1)] [] σ := by
  unfold m_X9_findLonger_J68 at h
  refine ww_iinc (v := (x1 + 1)) (lv' := [(1, .int (x1 + 1)), (0, .ref 61)]) C 1 rfl dX9_findLonger_68 rfl (by decide) rfl ?_
  refine ww_goto (tgt := 2) C dX9_findLonger_71 (by decide) ?_
  refine ww_sub [1, 0] rfl ?_
  exact hRc _ _ h
set_option maxRecDepth 100000 in
set_option maxHeartbeats 4000000 in
theorem w_X9_findLonger_L2b {p : Program} {l : Launch} {e : Env} {s : State} {m : MethodId} {args : Array Value} {below : List Frame} {meth : Method} {c : Code} {dC : Nat → ClassId} {dI : Nat → Nat → Nat} {cA : Nat → ClassId} {A : Nat → Prop} {al : Nat → Nat} {sh : List Kd} (C : Fx p s m args c cX9_findLonger 3 yX9_findLonger.cls dC dI cA A al) (hr : meth.sig.returnType = none) (hlk : meth.locks = false) (hs : ShC sh) {Q : St → Prop} {K74 : St → Prop} (hK74 : ∀ (σ : St), K74 σ → WW p l e (RM 3) s m args below meth c (MQ below (va_Qv Q (WPost dC dI cA al sh A) A) args s 0 0 A) dC dI cA A 3 0 0 al sh 74 [] [] σ) {Rc : St → Int32 → Prop} (hRc : ∀ (σ : St) (x1 : Int32), Rc σ x1 → WW p l e (RM 3) s m args below meth c (MQ below (va_Qv Q (WPost dC dI cA al sh A) A) args s 0 0 A) dC dI cA A 3 0 0 al sh 2 [(0, .ref 61), (1, .int x1)] [] σ) {σ : St} {x1 : Int32} (h : m_X9_findLonger_L2b Q K74 Rc σ x1) : WW p l e (RM 3) s m args below meth c (MQ below (va_Qv Q (WPost dC dI cA al sh A) A) args s 0 0 A) dC dI cA A 3 0 0 al sh 2 [(0, .ref 61), (1, .int x1)] [] σ := by
  unfold m_X9_findLonger_L2b at h
  refine ww_iload_n C 1 rfl dX9_findLonger_2 ?_
  refine ww_aload_n C 0 rfl dX9_findLonger_3 ?_
  refine ww_getI C (shc_61 hs) rfl inG9 20 (by decide) nq_579 rfl dX9_findLonger_4 ?_
  refine ww_icmp_ge (tgt := 74) C dX9_findLonger_7 (by decide) (fun hc => ?_) (fun hc => ?_)
  · have h := h.1 hc
    refine ww_sub [] rfl ?_
    exact hK74 _ h
  · have h := h.2 hc
    refine ww_aload_n C 0 rfl dX9_findLonger_10 ?_
    refine ww_iconst (v := 2) C dX9_findLonger_11 (by decide) ?_
    refine ww_iload_n C 1 rfl dX9_findLonger_12 ?_
    refine ww_vi (n := 2) (As := [.int 2, .int x1]) (rest := []) C (c_X9_goesOn hs h) (shc_61 hs) rfl nq_624 nq_625 nq_626 nq_5 nq_627 (by decide +kernel) rfl rfl ⟨Nat.le_of_ble_eq_true rfl, Nat.le_of_ble_eq_true rfl, Nat.le_of_ble_eq_true rfl, Nat.le_of_ble_eq_true rfl⟩ (Nat.le_of_ble_eq_true rfl) dX9_findLonger_13 (fun r13 σ13 h => ?_)
    refine ww_if_eq (tgt := 68) C dX9_findLonger_16 (by decide) (fun hc => ?_) (fun hc => ?_)
    · have h := h.1 hc
      refine ww_iinc (v := (x1 + 1)) (lv' := [(1, .int (x1 + 1)), (0, .ref 61)]) C 1 rfl dX9_findLonger_68 rfl (by decide) rfl ?_
      refine ww_goto (tgt := 2) C dX9_findLonger_71 (by decide) ?_
      refine ww_sub [1, 0] rfl ?_
      exact hRc _ _ h
    · have h := h.2 hc
      refine ww_aload_n C 0 rfl dX9_findLonger_19 ?_
      refine ww_getR C (shc_61 hs) rfl inG9 25 (by decide) nq_133 rfl dX9_findLonger_20 ?_
      refine ww_iconst (v := 2) C dX9_findLonger_23 (by decide) ?_
      refine ww_iload_n C 1 rfl dX9_findLonger_24 ?_
      refine ww_iast C (shc_74 hs) h.1 dX9_findLonger_25 h.2 (fun σ25 h => ?_)
      refine ww_aload_n C 0 rfl dX9_findLonger_26 ?_
      refine ww_iconst (v := 3) C dX9_findLonger_27 (by decide) ?_
      refine ww_vv (n := 1) (As := [.int 3]) (rest := []) C (c_X9_close hs h) (shc_61 hs) rfl nq_636 nq_637 nq_638 nq_5 nq_639 (by decide +kernel) rfl rfl ⟨Nat.le_of_ble_eq_true rfl, Nat.le_of_ble_eq_true rfl, Nat.le_of_ble_eq_true rfl, Nat.le_of_ble_eq_true rfl⟩ (Nat.le_of_ble_eq_true rfl) dX9_findLonger_28 (fun σ28 h => ?_)
      refine ww_iconst (v := 0) C dX9_findLonger_31 (by decide) ?_
      refine ww_istore_n (lv' := [(2, .int 0), (0, .ref 61), (1, .int x1)]) C dX9_findLonger_32 rfl (by decide) rfl ?_
      refine ww_sub [1, 2, 0] rfl ?_
      obtain ⟨f, h⟩ := h
      exact w_X9_findLonger_L33 (Q := Q) C hr hlk hs (fun σ h => by exact w_X9_findLonger_J68 (Q := Q) C hr hlk hs hK74 hRc h) f _ _ h
set_option maxRecDepth 100000 in
set_option maxHeartbeats 4000000 in
theorem w_X9_findLonger_L2 {p : Program} {l : Launch} {e : Env} {s : State} {m : MethodId} {args : Array Value} {below : List Frame} {meth : Method} {c : Code} {dC : Nat → ClassId} {dI : Nat → Nat → Nat} {cA : Nat → ClassId} {A : Nat → Prop} {al : Nat → Nat} {sh : List Kd} (C : Fx p s m args c cX9_findLonger 3 yX9_findLonger.cls dC dI cA A al) (hr : meth.sig.returnType = none) (hlk : meth.locks = false) (hs : ShC sh) {Q : St → Prop} {K74 : St → Prop} (hK74 : ∀ (σ : St), K74 σ → WW p l e (RM 3) s m args below meth c (MQ below (va_Qv Q (WPost dC dI cA al sh A) A) args s 0 0 A) dC dI cA A 3 0 0 al sh 74 [] [] σ) : ∀ (f : Nat) (σ : St) (x1 : Int32), m_X9_findLonger_L2 Q K74 f σ x1 → WW p l e (RM 3) s m args below meth c (MQ below (va_Qv Q (WPost dC dI cA al sh A) A) args s 0 0 A) dC dI cA A 3 0 0 al sh 2 [(0, .ref 61), (1, .int x1)] [] σ := by
  intro f
  induction f with
  | zero => intro σ x1 h; exact False.elim h
  | succ f ih => intro σ x1 h; exact w_X9_findLonger_L2b (Q := Q) C hr hlk hs hK74 ih h
set_option maxRecDepth 100000 in
set_option maxHeartbeats 4000000 in
theorem w_X9_findLonger_J74 {p : Program} {l : Launch} {e : Env} {s : State} {m : MethodId} {args : Array Value} {below : List Frame} {meth : Method} {c : Code} {dC : Nat → ClassId} {dI : Nat → Nat → Nat} {cA : Nat → ClassId} {A : Nat → Prop} {al : Nat → Nat} {sh : List Kd} (C : Fx p s m args c cX9_findLonger 3 yX9_findLonger.cls dC dI cA A al) (hr : meth.sig.returnType = none) (hlk : meth.locks = false) (hs : ShC sh) {Q : St → Prop} {σ : St} (h : m_X9_findLonger_J74 Q σ) : WW p l e (RM 3) s m args below meth c (MQ below (va_Qv Q (WPost dC dI cA al sh A) A) args s 0 0 A) dC dI cA A 3 0 0 al sh 74 [] [] σ := by
  unfold m_X9_findLonger_J74 at h
  exact ww_vret C hr hlk h dX9_findLonger_74
set_option maxRecDepth 100000 in
set_option maxHeartbeats 4000000 in
theorem c_X9_findLonger {l : Launch} {dC : Nat → ClassId} {dI : Nat → Nat → Nat} {cA : Nat → ClassId} {al : Nat → Nat} {sh : List Kd} (hs : ShC sh) {σ : St} {Q : St → Prop} (h : m_X9_findLonger σ Q) : ∀ sz, Met l yX9_findLonger (wd yX9_findLonger cX9_findLonger 3 none) (RM 3) (va_Pc ([.ref 61].map (cv al)) (WPre dC dI cA al sh σ sz)) (va_Qv Q (WPost dC dI cA al sh (AW al sh sz)) (AW al sh sz)) 0 0 (AW al sh sz) := by
  refine ww_met (Qc := fun A => va_Qv Q (WPost dC dI cA al sh A) A) (by decide +kernel) (Nat.le_of_ble_eq_true rfl) (fun p e s m args below meth c A C hr hlk => ?_)
  show WW p l e (RM 3) s m args below meth c (MQ below (va_Qv Q (WPost dC dI cA al sh A) A) args s 0 0 A) dC dI cA A 3 0 0 al sh 0 [(0, .ref 61)] [] σ
  unfold m_X9_findLonger at h
  refine ww_iconst (v := 0) C dX9_findLonger_0 (by decide) ?_
  refine ww_istore_n (lv' := [(1, .int 0), (0, .ref 61)]) C dX9_findLonger_1 rfl (by decide) rfl ?_
  refine ww_sub [1, 0] rfl ?_
  obtain ⟨f, h⟩ := h
  exact w_X9_findLonger_L2 (Q := Q) C hr hlk hs (fun σ h => by exact w_X9_findLonger_J74 (Q := Q) C hr hlk hs h) f _ _ h
set_option maxRecDepth 100000 in
set_option maxHeartbeats 4000000 in
theorem w_X9_findRings_L29b {p : Program} {l : Launch} {e : Env} {s : State} {m : MethodId} {args : Array Value} {below : List Frame} {meth : Method} {c : Code} {dC : Nat → ClassId} {dI : Nat → Nat → Nat} {cA : Nat → ClassId} {A : Nat → Prop} {al : Nat → Nat} {sh : List Kd} (C : Fx p s m args c cX9_findRings 4 yX9_findRings.cls dC dI cA A al) (hr : meth.sig.returnType = none) (hlk : meth.locks = false) (hs : ShC sh) {a1 : Int32} {Q : St → Prop} {K68 : St → Prop} (hK68 : ∀ (σ : St), K68 σ → WW p l e (RM 4) s m args below meth c (MQ below (va_Qv Q (WPost dC dI cA al sh A) A) args s 0 0 A) dC dI cA A 4 0 0 al sh 68 [(0, .ref 61)] [] σ) {Rc : St → Int32 → Prop} (hRc : ∀ (σ : St) (x2 : Int32), Rc σ x2 → WW p l e (RM 4) s m args below meth c (MQ below (va_Qv Q (WPost dC dI cA al sh A) A) args s 0 0 A) dC dI cA A 4 0 0 al sh 29 [(0, .ref 61), (2, .int x2)] [] σ) {σ : St} {x2 : Int32} (h : m_X9_findRings_L29b a1 Q K68 Rc σ x2) : WW p l e (RM 4) s m args below meth c (MQ below (va_Qv Q (WPost dC dI cA al sh A) A) args s 0 0 A) dC dI cA A 4 0 0 al sh 29 [(0, .ref 61), (2, .int x2)] [] σ := by
  unfold m_X9_findRings_L29b at h
  refine ww_iload_n C 1 rfl dX9_findRings_29 ?_
  refine ww_iconst (v := 5) C dX9_findRings_30 (by decide) ?_
  refine ww_icmp_ge (tgt := 68) C dX9_findRings_31 (by decide) (fun hc => ?_) (fun hc => ?_)
  · have h := h.1 hc
    refine ww_sub [0] rfl ?_
    exact hK68 _ h
  · have h := h.2 hc
    refine ww_aload_n C 0 rfl dX9_findRings_34 ?_
    refine ww_getR C (shc_61 hs) rfl inG9 26 (by decide) nq_134 rfl dX9_findRings_35 ?_
    refine ww_iload_n C 1 rfl dX9_findRings_38 ?_
    refine ww_iconst (v := 0) C dX9_findRings_39 (by decide) ?_
    refine ww_iast C (shc_75 hs) h.1 dX9_findRings_40 h.2 (fun σ40 h => ?_)
    refine ww_aload_n C 0 rfl dX9_findRings_41 ?_
    refine ww_getR C (shc_61 hs) rfl inG9 27 (by decide) nq_135 rfl dX9_findRings_42 ?_
    refine ww_iload_n C 1 rfl dX9_findRings_45 ?_
    refine ww_iconst (v := 0) C dX9_findRings_46 (by decide) ?_
    refine ww_iast C (shc_76 hs) h.1 dX9_findRings_47 h.2 (fun σ47 h => ?_)
    refine ww_aload_n C 0 rfl dX9_findRings_48 ?_
    refine ww_getR C (shc_61 hs) rfl inG9 28 (by decide) nq_136 rfl dX9_findRings_49 ?_
    refine ww_iload_n C 1 rfl dX9_findRings_52 ?_
    refine ww_iconst (v := 0) C dX9_findRings_53 (by decide) ?_
    refine ww_iast C (shc_77 hs) h.1 dX9_findRings_54 h.2 (fun σ54 h => ?_)
    refine ww_aload_n C 0 rfl dX9_findRings_55 ?_
    refine ww_getR C (shc_61 hs) rfl inG9 29 (by decide) nq_137 rfl dX9_findRings_56 ?_
    refine ww_iload_n C 1 rfl dX9_findRings_59 ?_
    refine ww_iconst (v := 0) C dX9_findRings_60 (by decide) ?_
    refine ww_iast C (shc_78 hs) h.1 dX9_findRings_61 h.2 (fun σ61 h => ?_)
    refine ww_iinc (v := (x2 + 1)) (lv' := [(2, .int (x2 + 1)), (0, .ref 61)]) C 1 rfl dX9_findRings_62 rfl (by decide) rfl ?_
    refine ww_goto (tgt := 29) C dX9_findRings_65 (by decide) ?_
    refine ww_sub [1, 0] rfl ?_
    exact hRc _ _ h
set_option maxRecDepth 100000 in
set_option maxHeartbeats 4000000 in
theorem w_X9_findRings_L29 {p : Program} {l : Launch} {e : Env} {s : State} {m : MethodId} {args : Array Value} {below : List Frame} {meth : Method} {c : Code} {dC : Nat → ClassId} {dI : Nat → Nat → Nat} {cA : Nat → ClassId} {A : Nat → Prop} {al : Nat → Nat} {sh : List Kd} (C : Fx p s m args c cX9_findRings 4 yX9_findRings.cls dC dI cA A al) (hr : meth.sig.returnType = none) (hlk : meth.locks = false) (hs : ShC sh) {a1 : Int32} {Q : St → Prop} {K68 : St → Prop} (hK68 : ∀ (σ : St), K68 σ → WW p l e (RM 4) s m args below meth c (MQ below (va_Qv Q (WPost dC dI cA al sh A) A) args s 0 0 A) dC dI cA A 4 0 0 al sh 68 [(0, .ref 61)] [] σ) : ∀ (f : Nat) (σ : St) (x2 : Int32), m_X9_findRings_L29 a1 Q K68 f σ x2 → WW p l e (RM 4) s m args below meth c (MQ below (va_Qv Q (WPost dC dI cA al sh A) A) args s 0 0 A) dC dI cA A 4 0 0 al sh 29 [(0, .ref 61), (2, .int x2)] [] σ := by
  intro f
  induction f with
  | zero => intro σ x2 h; exact False.elim h
  | succ f ih => intro σ x2 h; exact w_X9_findRings_L29b (Q := Q) (a1 := a1) C hr hlk hs hK68 ih h
set_option maxRecDepth 100000 in
set_option maxHeartbeats 4000000 in
theorem w_X9_findRings_L82b {p : Program} {l : Launch} {e : Env} {s : State} {m : MethodId} {args : Array Value} {below : List Frame} {meth : Method} {c : Code} {dC : Nat → ClassId} {dI : Nat → Nat → Nat} {cA : Nat → ClassId} {A : Nat → Prop} {al : Nat → Nat} {sh : List Kd} (C : Fx p s m args c cX9_findRings 4 yX9_findRings.cls dC dI cA A al) (hr : meth.sig.returnType = none) (hlk : meth.locks = false) (hs : ShC sh) {a1 : Int32} {Q : St → Prop} {x2 : Int32} {K128 : St → Prop} (hK128 : ∀ (σ : St), K128 σ → WW p l e (RM 4) s m args below meth c (MQ below (va_Qv Q (WPost dC dI cA al sh A) A) args s 0 0 A) dC dI cA A 4 0 0 al sh 128 [(0, .ref 61), (2, .int x2)] [] σ) {Rc : St → Int32 → Prop} (hRc : ∀ (σ : St) (x3 : Int32), Rc σ x3 → WW p l e (RM 4) s m args below meth c (MQ below (va_Qv Q (WPost dC dI cA al sh A) A) args s 0 0 A) dC dI cA A 4 0 0 al sh 82 [(0, .ref 61), (2, .int x2), (3, .int x3)] [] σ) {σ : St} {x3 : Int32} (h : m_X9_findRings_L82b a1 Q x2 K128 Rc σ x3) : WW p l e (RM 4) s m args below meth c (MQ below (va_Qv Q (WPost dC dI cA al sh A) A) args s 0 0 A) dC dI cA A 4 0 0 al sh 82 [(0, .ref 61), (2, .int x2), (3, .int x3)] [] σ := by
  unfold m_X9_findRings_L82b at h
  refine ww_iload_n C 2 rfl dX9_findRings_82 ?_
  refine ww_aload_n C 0 rfl dX9_findRings_83 ?_
  refine ww_getI C (shc_61 hs) rfl inG9 20 (by decide) nq_579 rfl dX9_findRings_84 ?_
  refine ww_icmp_ge (tgt := 128) C dX9_findRings_87 (by decide) (fun hc => ?_) (fun hc => ?_)
  · have h := h.1 hc
    refine ww_sub [0, 1] rfl ?_
    exact hK128 _ h
  · have h := h.2 hc
    refine ww_aload_n C 0 rfl dX9_findRings_90 ?_
    refine ww_getR C (shc_61 hs) rfl inG9 25 (by decide) nq_133 rfl dX9_findRings_91 ?_
    refine ww_iconst (v := 0) C dX9_findRings_94 (by decide) ?_
    refine ww_iload_n C 1 rfl dX9_findRings_95 ?_
    refine ww_iast C (shc_74 hs) h.1 dX9_findRings_96 h.2 (fun σ96 h => ?_)
    refine ww_aload_n C 0 rfl dX9_findRings_97 ?_
    refine ww_iconst (v := 1) C dX9_findRings_98 (by decide) ?_
    refine ww_iload_n C 2 rfl dX9_findRings_99 ?_
    refine ww_vi (n := 2) (As := [.int 1, .int x3]) (rest := []) C (c_X9_goesOn hs h) (shc_61 hs) rfl nq_624 nq_625 nq_626 nq_5 nq_627 (by decide +kernel) rfl rfl ⟨Nat.le_of_ble_eq_true rfl, Nat.le_of_ble_eq_true rfl, Nat.le_of_ble_eq_true rfl, Nat.le_of_ble_eq_true rfl⟩ (Nat.le_of_ble_eq_true rfl) dX9_findRings_100 (fun r100 σ100 h => ?_)
    refine ww_if_eq (tgt := 122) C dX9_findRings_103 (by decide) (fun hc => ?_) (fun hc => ?_)
    · have h := h.1 hc
      refine ww_iinc (v := (x3 + 1)) (lv' := [(3, .int (x3 + 1)), (0, .ref 61), (2, .int x2)]) C 2 rfl dX9_findRings_122 rfl (by decide) rfl ?_
      refine ww_goto (tgt := 82) C dX9_findRings_125 (by decide) ?_
      refine ww_sub [1, 2, 0] rfl ?_
      exact hRc _ _ h
    · have h := h.2 hc
      refine ww_aload_n C 0 rfl dX9_findRings_106 ?_
      refine ww_getR C (shc_61 hs) rfl inG9 25 (by decide) nq_133 rfl dX9_findRings_107 ?_
      refine ww_iconst (v := 1) C dX9_findRings_110 (by decide) ?_
      refine ww_iload_n C 2 rfl dX9_findRings_111 ?_
      refine ww_iast C (shc_74 hs) h.1 dX9_findRings_112 h.2 (fun σ112 h => ?_)
      refine ww_aload_n C 0 rfl dX9_findRings_113 ?_
      refine ww_iconst (v := 2) C dX9_findRings_114 (by decide) ?_
      refine ww_vv (n := 1) (As := [.int 2]) (rest := []) C (c_X9_close hs h) (shc_61 hs) rfl nq_636 nq_637 nq_638 nq_5 nq_639 (by decide +kernel) rfl rfl ⟨Nat.le_of_ble_eq_true rfl, Nat.le_of_ble_eq_true rfl, Nat.le_of_ble_eq_true rfl, Nat.le_of_ble_eq_true rfl⟩ (Nat.le_of_ble_eq_true rfl) dX9_findRings_115 (fun σ115 h => ?_)
      refine ww_aload_n C 0 rfl dX9_findRings_118 ?_
      refine ww_vv (n := 0) (As := []) (rest := []) C (c_X9_findLonger hs h) (shc_61 hs) rfl nq_649 nq_650 nq_651 nq_5 nq_652 (by decide +kernel) rfl rfl ⟨Nat.le_of_ble_eq_true rfl, Nat.le_of_ble_eq_true rfl, Nat.le_of_ble_eq_true rfl, Nat.le_of_ble_eq_true rfl⟩ (Nat.le_of_ble_eq_true rfl) dX9_findRings_119 (fun σ119 h => ?_)
      refine ww_iinc (v := (x3 + 1)) (lv' := [(3, .int (x3 + 1)), (0, .ref 61), (2, .int x2)]) C 2 rfl dX9_findRings_122 rfl (by decide) rfl ?_
      refine ww_goto (tgt := 82) C dX9_findRings_125 (by decide) ?_
      refine ww_sub [1, 2, 0] rfl ?_
      exact hRc _ _ h
set_option maxRecDepth 100000 in
set_option maxHeartbeats 4000000 in
theorem w_X9_findRings_L82 {p : Program} {l : Launch} {e : Env} {s : State} {m : MethodId} {args : Array Value} {below : List Frame} {meth : Method} {c : Code} {dC : Nat → ClassId} {dI : Nat → Nat → Nat} {cA : Nat → ClassId} {A : Nat → Prop} {al : Nat → Nat} {sh : List Kd} (C : Fx p s m args c cX9_findRings 4 yX9_findRings.cls dC dI cA A al) (hr : meth.sig.returnType = none) (hlk : meth.locks = false) (hs : ShC sh) {a1 : Int32} {Q : St → Prop} {x2 : Int32} {K128 : St → Prop} (hK128 : ∀ (σ : St), K128 σ → WW p l e (RM 4) s m args below meth c (MQ below (va_Qv Q (WPost dC dI cA al sh A) A) args s 0 0 A) dC dI cA A 4 0 0 al sh 128 [(0, .ref 61), (2, .int x2)] [] σ) : ∀ (f : Nat) (σ : St) (x3 : Int32), m_X9_findRings_L82 a1 Q x2 K128 f σ x3 → WW p l e (RM 4) s m args below meth c (MQ below (va_Qv Q (WPost dC dI cA al sh A) A) args s 0 0 A) dC dI cA A 4 0 0 al sh 82 [(0, .ref 61), (2, .int x2), (3, .int x3)] [] σ := by
  intro f
  induction f with
  | zero => intro σ x3 h; exact False.elim h
  | succ f ih => intro σ x3 h; exact w_X9_findRings_L82b (Q := Q) (a1 := a1) C hr hlk hs hK128 ih h
set_option maxRecDepth 100000 in
set_option maxHeartbeats 4000000 in
theorem w_X9_findRings_J128 {p : Program} {l : Launch} {e : Env} {s : State} {m : MethodId} {args : Array Value} {below : List Frame} {meth : Method} {c : Code} {dC : Nat → ClassId} {dI : Nat → Nat → Nat} {cA : Nat → ClassId} {A : Nat → Prop} {al : Nat → Nat} {sh : List Kd} (C : Fx p s m args c cX9_findRings 4 yX9_findRings.cls dC dI cA A al) (hr : meth.sig.returnType = none) (hlk : meth.locks = false) (hs : ShC sh) {a1 : Int32} {Q : St → Prop} {K134 : St → Prop} (hK134 : ∀ (σ : St), K134 σ → WW p l e (RM 4) s m args below meth c (MQ below (va_Qv Q (WPost dC dI cA al sh A) A) args s 0 0 A) dC dI cA A 4 0 0 al sh 134 [] [] σ) {Rc : St → Int32 → Prop} (hRc : ∀ (σ : St) (x2 : Int32), Rc σ x2 → WW p l e (RM 4) s m args below meth c (MQ below (va_Qv Q (WPost dC dI cA al sh A) A) args s 0 0 A) dC dI cA A 4 0 0 al sh 70 [(0, .ref 61), (2, .int x2)] [] σ) {σ : St} {x2 : Int32} (h : m_X9_findRings_J128 a1 Q K134 Rc σ x2) : WW p l e (RM 4) s m args below meth c (MQ below (va_Qv Q (WPost dC dI cA al sh A) A) args s 0 0 A) dC dI cA A 4 0 0 al sh 128 [(0, .ref 61), (2, .int x2)] [] σ := by
  unfold m_X9_findRings_J128 at h
  refine ww_iinc (v := (x2 + 1)) (lv' := [(2, .int (x2 + 1)), (0, .ref 61)]) C 1 rfl dX9_findRings_128 rfl (by decide) rfl ?_
  refine ww_goto (tgt := 70) C dX9_findRings_131 (by decide) ?_
  refine ww_sub [1, 0] rfl ?_
  exact hRc _ _ h
set_option maxRecDepth 100000 in
set_option maxHeartbeats 4000000 in
theorem w_X9_findRings_L70b {p : Program} {l : Launch} {e : Env} {s : State} {m : MethodId} {args : Array Value} {below : List Frame} {meth : Method} {c : Code} {dC : Nat → ClassId} {dI : Nat → Nat → Nat} {cA : Nat → ClassId} {A : Nat → Prop} {al : Nat → Nat} {sh : List Kd} (C : Fx p s m args c cX9_findRings 4 yX9_findRings.cls dC dI cA A al) (hr : meth.sig.returnType = none) (hlk : meth.locks = false) (hs : ShC sh) {a1 : Int32} {Q : St → Prop} {K134 : St → Prop} (hK134 : ∀ (σ : St), K134 σ → WW p l e (RM 4) s m args below meth c (MQ below (va_Qv Q (WPost dC dI cA al sh A) A) args s 0 0 A) dC dI cA A 4 0 0 al sh 134 [] [] σ) {Rc : St → Int32 → Prop} (hRc : ∀ (σ : St) (x2 : Int32), Rc σ x2 → WW p l e (RM 4) s m args below meth c (MQ below (va_Qv Q (WPost dC dI cA al sh A) A) args s 0 0 A) dC dI cA A 4 0 0 al sh 70 [(0, .ref 61), (2, .int x2)] [] σ) {σ : St} {x2 : Int32} (h : m_X9_findRings_L70b a1 Q K134 Rc σ x2) : WW p l e (RM 4) s m args below meth c (MQ below (va_Qv Q (WPost dC dI cA al sh A) A) args s 0 0 A) dC dI cA A 4 0 0 al sh 70 [(0, .ref 61), (2, .int x2)] [] σ := by
  unfold m_X9_findRings_L70b at h
  refine ww_iload_n C 1 rfl dX9_findRings_70 ?_
  refine ww_aload_n C 0 rfl dX9_findRings_71 ?_
  refine ww_getI C (shc_61 hs) rfl inG9 20 (by decide) nq_579 rfl dX9_findRings_72 ?_
  refine ww_icmp_ge (tgt := 134) C dX9_findRings_75 (by decide) (fun hc => ?_) (fun hc => ?_)
  · have h := h.1 hc
    refine ww_sub [] rfl ?_
    exact hK134 _ h
  · have h := h.2 hc
    refine ww_iload_n C 1 rfl dX9_findRings_78 ?_
    refine ww_iconst (v := 1) C dX9_findRings_79 (by decide) ?_
    refine ww_iadd C dX9_findRings_80 ?_
    refine ww_nmI h (fun y81 h => ?_)
    refine ww_istore_n (lv' := [(3, .int y81), (0, .ref 61), (2, .int x2)]) C dX9_findRings_81 rfl (by decide) rfl ?_
    refine ww_sub [1, 2, 0] rfl ?_
    obtain ⟨f, h⟩ := h
    exact w_X9_findRings_L82 (Q := Q) (a1 := a1) C hr hlk hs (fun σ h => by exact w_X9_findRings_J128 (Q := Q) (a1 := a1) C hr hlk hs hK134 hRc h) f _ _ h
set_option maxRecDepth 100000 in
set_option maxHeartbeats 4000000 in
theorem w_X9_findRings_L70 {p : Program} {l : Launch} {e : Env} {s : State} {m : MethodId} {args : Array Value} {below : List Frame} {meth : Method} {c : Code} {dC : Nat → ClassId} {dI : Nat → Nat → Nat} {cA : Nat → ClassId} {A : Nat → Prop} {al : Nat → Nat} {sh : List Kd} (C : Fx p s m args c cX9_findRings 4 yX9_findRings.cls dC dI cA A al) (hr : meth.sig.returnType = none) (hlk : meth.locks = false) (hs : ShC sh) {a1 : Int32} {Q : St → Prop} {K134 : St → Prop} (hK134 : ∀ (σ : St), K134 σ → WW p l e (RM 4) s m args below meth c (MQ below (va_Qv Q (WPost dC dI cA al sh A) A) args s 0 0 A) dC dI cA A 4 0 0 al sh 134 [] [] σ) : ∀ (f : Nat) (σ : St) (x2 : Int32), m_X9_findRings_L70 a1 Q K134 f σ x2 → WW p l e (RM 4) s m args below meth c (MQ below (va_Qv Q (WPost dC dI cA al sh A) A) args s 0 0 A) dC dI cA A 4 0 0 al sh 70 [(0, .ref 61), (2, .int x2)] [] σ := by
  intro f
  induction f with
  | zero => intro σ x2 h; exact False.elim h
  | succ f ih => intro σ x2 h; exact w_X9_findRings_L70b (Q := Q) (a1 := a1) C hr hlk hs hK134 ih h
set_option maxRecDepth 100000 in
set_option maxHeartbeats 4000000 in
theorem w_X9_findRings_J134 {p : Program} {l : Launch} {e : Env} {s : State} {m : MethodId} {args : Array Value} {below : List Frame} {meth : Method} {c : Code} {dC : Nat → ClassId} {dI : Nat → Nat → Nat} {cA : Nat → ClassId} {A : Nat → Prop} {al : Nat → Nat} {sh : List Kd} (C : Fx p s m args c cX9_findRings 4 yX9_findRings.cls dC dI cA A al) (hr : meth.sig.returnType = none) (hlk : meth.locks = false) (hs : ShC sh) {a1 : Int32} {Q : St → Prop} {σ : St} (h : m_X9_findRings_J134 a1 Q σ) : WW p l e (RM 4) s m args below meth c (MQ below (va_Qv Q (WPost dC dI cA al sh A) A) args s 0 0 A) dC dI cA A 4 0 0 al sh 134 [] [] σ := by
  unfold m_X9_findRings_J134 at h
  exact ww_vret C hr hlk h dX9_findRings_134
set_option maxRecDepth 100000 in
set_option maxHeartbeats 4000000 in
theorem w_X9_findRings_J68 {p : Program} {l : Launch} {e : Env} {s : State} {m : MethodId} {args : Array Value} {below : List Frame} {meth : Method} {c : Code} {dC : Nat → ClassId} {dI : Nat → Nat → Nat} {cA : Nat → ClassId} {A : Nat → Prop} {al : Nat → Nat} {sh : List Kd} (C : Fx p s m args c cX9_findRings 4 yX9_findRings.cls dC dI cA A al) (hr : meth.sig.returnType = none) (hlk : meth.locks = false) (hs : ShC sh) {a1 : Int32} {Q : St → Prop} {σ : St} (h : m_X9_findRings_J68 a1 Q σ) : WW p l e (RM 4) s m args below meth c (MQ below (va_Qv Q (WPost dC dI cA al sh A) A) args s 0 0 A) dC dI cA A 4 0 0 al sh 68 [(0, .ref 61)] [] σ := by
  unfold m_X9_findRings_J68 at h
  refine ww_iconst (v := 0) C dX9_findRings_68 (by decide) ?_
  refine ww_istore_n (lv' := [(2, .int 0), (0, .ref 61)]) C dX9_findRings_69 rfl (by decide) rfl ?_
  refine ww_sub [1, 0] rfl ?_
  obtain ⟨f, h⟩ := h
  exact w_X9_findRings_L70 (Q := Q) (a1 := a1) C hr hlk hs (fun σ h => by exact w_X9_findRings_J134 (Q := Q) (a1 := a1) C hr hlk hs h) f _ _ h
set_option maxRecDepth 100000 in
set_option maxHeartbeats 4000000 in
theorem c_X9_findRings {l : Launch} {dC : Nat → ClassId} {dI : Nat → Nat → Nat} {cA : Nat → ClassId} {al : Nat → Nat} {sh : List Kd} (hs : ShC sh) {σ : St} {a1 : Int32} {Q : St → Prop} (h : m_X9_findRings σ a1 Q) : ∀ sz, Met l yX9_findRings (wd yX9_findRings cX9_findRings 4 none) (RM 4) (va_Pc ([.ref 61, .int a1].map (cv al)) (WPre dC dI cA al sh σ sz)) (va_Qv Q (WPost dC dI cA al sh (AW al sh sz)) (AW al sh sz)) 0 0 (AW al sh sz) := by
  refine ww_met (Qc := fun A => va_Qv Q (WPost dC dI cA al sh A) A) (by decide +kernel) (Nat.le_of_ble_eq_true rfl) (fun p e s m args below meth c A C hr hlk => ?_)
  show WW p l e (RM 4) s m args below meth c (MQ below (va_Qv Q (WPost dC dI cA al sh A) A) args s 0 0 A) dC dI cA A 4 0 0 al sh 0 [(0, .ref 61), (1, .int a1)] [] σ
  unfold m_X9_findRings at h
  refine ww_aload_n C 0 rfl dX9_findRings_0 ?_
  refine ww_iload_n C 1 rfl dX9_findRings_1 ?_
  refine ww_vv (n := 1) (As := [.int a1]) (rest := []) C (c_X9_findHeld hs h) (shc_61 hs) rfl nq_323 nq_324 nq_325 nq_5 nq_326 (by decide +kernel) rfl rfl ⟨Nat.le_of_ble_eq_true rfl, Nat.le_of_ble_eq_true rfl, Nat.le_of_ble_eq_true rfl, Nat.le_of_ble_eq_true rfl⟩ (Nat.le_of_ble_eq_true rfl) dX9_findRings_2 (fun σ2 h => ?_)
  refine ww_aload_n C 0 rfl dX9_findRings_5 ?_
  refine ww_iload_n C 1 rfl dX9_findRings_6 ?_
  refine ww_vv (n := 1) (As := [.int a1]) (rest := []) C (c_X9_findBefore hs h) (shc_61 hs) rfl nq_517 nq_518 nq_519 nq_5 nq_520 (by decide +kernel) rfl rfl ⟨Nat.le_of_ble_eq_true rfl, Nat.le_of_ble_eq_true rfl, Nat.le_of_ble_eq_true rfl, Nat.le_of_ble_eq_true rfl⟩ (Nat.le_of_ble_eq_true rfl) dX9_findRings_7 (fun σ7 h => ?_)
  refine ww_aload_n C 0 rfl dX9_findRings_10 ?_
  refine ww_iload_n C 1 rfl dX9_findRings_11 ?_
  refine ww_vv (n := 1) (As := [.int a1]) (rest := []) C (c_X9_findEdges hs h) (shc_61 hs) rfl nq_580 nq_581 nq_582 nq_5 nq_583 (by decide +kernel) rfl rfl ⟨Nat.le_of_ble_eq_true rfl, Nat.le_of_ble_eq_true rfl, Nat.le_of_ble_eq_true rfl, Nat.le_of_ble_eq_true rfl⟩ (Nat.le_of_ble_eq_true rfl) dX9_findRings_12 (fun σ12 h => ?_)
  refine ww_aload_n C 0 rfl dX9_findRings_15 ?_
  refine ww_iload_n C 1 rfl dX9_findRings_16 ?_
  refine ww_putI C (shc_61 hs) rfl inG9 24 (by decide) nq_621 tyX9 tyX9_ok nmX9 rfl (by decide +kernel) rfl dX9_findRings_17 h (fun σ17 h => ?_)
  refine ww_aload_n C 0 rfl dX9_findRings_20 ?_
  refine ww_ldc2 (v := -9) C nq_622 dX9_findRings_21 ?_
  refine ww_putL C (shc_61 hs) rfl inG9 30 (by decide) nq_623 tyX9 tyX9_ok nmX9 rfl (by decide +kernel) rfl dX9_findRings_24 h (fun σ24 h => ?_)
  refine ww_iconst (v := 0) C dX9_findRings_27 (by decide) ?_
  refine ww_istore_n (lv' := [(2, .int 0), (0, .ref 61), (1, .int a1)]) C dX9_findRings_28 rfl (by decide) rfl ?_
  refine ww_sub [1, 0] rfl ?_
  obtain ⟨f, h⟩ := h
  exact w_X9_findRings_L29 (Q := Q) (a1 := a1) C hr hlk hs (fun σ h => by exact w_X9_findRings_J68 (Q := Q) (a1 := a1) C hr hlk hs h) f _ _ h
set_option maxRecDepth 100000 in
set_option maxHeartbeats 4000000 in
theorem c_X9_rings {l : Launch} {dC : Nat → ClassId} {dI : Nat → Nat → Nat} {cA : Nat → ClassId} {al : Nat → Nat} {sh : List Kd} (hs : ShC sh) {σ : St} {a1 : Int32} {a2 : Int32} {Q : Int32 → St → Prop} (h : m_X9_rings σ a1 a2 Q) : ∀ sz, Met l yX9_rings (wd yX9_rings cX9_rings 3 (some .int)) (RM 5) (va_Pc ([.ref 61, .int a1, .int a2].map (cv al)) (WPre dC dI cA al sh σ sz)) (va_Qi Q (WPost dC dI cA al sh (AW al sh sz)) (AW al sh sz)) 0 0 (AW al sh sz) := by
  refine ww_met (Qc := fun A => va_Qi Q (WPost dC dI cA al sh A) A) (by decide +kernel) (Nat.le_of_ble_eq_true rfl) (fun p e s m args below meth c A C hr hlk => ?_)
  show WW p l e (RM 5) s m args below meth c (MQ below (va_Qi Q (WPost dC dI cA al sh A) A) args s 0 0 A) dC dI cA A 3 0 0 al sh 0 [(0, .ref 61), (1, .int a1), (2, .int a2)] [] σ
  unfold m_X9_rings at h
  refine ww_iload_n C 1 rfl dX9_rings_0 ?_
  refine ww_i2l C dX9_rings_1 ?_
  refine ww_ldc2 (v := 2) C nq_616 dX9_rings_2 ?_
  refine ww_ldc2 (v := 4) C nq_476 dX9_rings_5 ?_
  refine ww_si (n := 3) (As := [.long (a1.toInt64), .long 2, .long 4]) (rest := []) C (c_X9_in hs h) nq_159 nq_160 nq_5 nq_161 (by decide +kernel) rfl rfl ⟨Nat.le_of_ble_eq_true rfl, Nat.le_of_ble_eq_true rfl, Nat.le_of_ble_eq_true rfl, Nat.le_of_ble_eq_true rfl⟩ (Nat.le_of_ble_eq_true rfl) dX9_rings_8 (fun r8 σ8 h => ?_)
  refine ww_if_eq (tgt := 26) C dX9_rings_11 (by decide) (fun hc => ?_) (fun hc => ?_)
  · have h := h.1 hc
    refine ww_bipush (v := -2) C dX9_rings_26 (by decide) ?_
    exact ww_iret C hr hlk h dX9_rings_28
  · have h := h.2 hc
    refine ww_iload_n C 2 rfl dX9_rings_14 ?_
    refine ww_i2l C dX9_rings_15 ?_
    refine ww_lconst (v := 0) C dX9_rings_16 (by decide) ?_
    refine ww_ldc2 (v := 3) C nq_243 dX9_rings_17 ?_
    refine ww_si (n := 3) (As := [.long (a2.toInt64), .long 0, .long 3]) (rest := []) C (c_X9_in hs h) nq_159 nq_160 nq_5 nq_161 (by decide +kernel) rfl rfl ⟨Nat.le_of_ble_eq_true rfl, Nat.le_of_ble_eq_true rfl, Nat.le_of_ble_eq_true rfl, Nat.le_of_ble_eq_true rfl⟩ (Nat.le_of_ble_eq_true rfl) dX9_rings_20 (fun r20 σ20 h => ?_)
    refine ww_if_ne (tgt := 29) C dX9_rings_23 (by decide) (fun hc => ?_) (fun hc => ?_)
    · have h := h.1 hc
      refine ww_aload_n C 0 rfl dX9_rings_29 ?_
      refine ww_iconst (v := 0) C dX9_rings_30 (by decide) ?_
      refine ww_vv (n := 1) (As := [.int 0]) (rest := []) C (c_X9_findRings hs h) (shc_61 hs) rfl nq_617 nq_618 nq_619 nq_5 nq_620 (by decide +kernel) rfl rfl ⟨Nat.le_of_ble_eq_true rfl, Nat.le_of_ble_eq_true rfl, Nat.le_of_ble_eq_true rfl, Nat.le_of_ble_eq_true rfl⟩ (Nat.le_of_ble_eq_true rfl) dX9_rings_31 (fun σ31 h => ?_)
      refine ww_iload_n C 2 rfl dX9_rings_34 ?_
      refine ww_if_ne (tgt := 47) C dX9_rings_35 (by decide) (fun hc => ?_) (fun hc => ?_)
      · have h := h.1 hc
        refine ww_iload_n C 2 rfl dX9_rings_47 ?_
        refine ww_iconst (v := 1) C dX9_rings_48 (by decide) ?_
        refine ww_icmp_ne (tgt := 61) C dX9_rings_49 (by decide) (fun hc => ?_) (fun hc => ?_)
        · have h := h.1 hc
          refine ww_iload_n C 2 rfl dX9_rings_61 ?_
          refine ww_iconst (v := 2) C dX9_rings_62 (by decide) ?_
          refine ww_icmp_ne (tgt := 75) C dX9_rings_63 (by decide) (fun hc => ?_) (fun hc => ?_)
          · have h := h.1 hc
            refine ww_aload_n C 0 rfl dX9_rings_75 ?_
            refine ww_getR C (shc_61 hs) rfl inG9 29 (by decide) nq_137 rfl dX9_rings_76 ?_
            refine ww_iload_n C 1 rfl dX9_rings_79 ?_
            refine ww_iald C (shc_78 hs) h.1 dX9_rings_80 ?_
            have h := h.2
            exact ww_iret C hr hlk h dX9_rings_81
          · have h := h.2 hc
            refine ww_aload_n C 0 rfl dX9_rings_66 ?_
            refine ww_getR C (shc_61 hs) rfl inG9 28 (by decide) nq_136 rfl dX9_rings_67 ?_
            refine ww_iload_n C 1 rfl dX9_rings_70 ?_
            refine ww_iald C (shc_77 hs) h.1 dX9_rings_71 ?_
            have h := h.2
            refine ww_goto (tgt := 81) C dX9_rings_72 (by decide) ?_
            exact ww_iret C hr hlk h dX9_rings_81
        · have h := h.2 hc
          refine ww_aload_n C 0 rfl dX9_rings_52 ?_
          refine ww_getR C (shc_61 hs) rfl inG9 27 (by decide) nq_135 rfl dX9_rings_53 ?_
          refine ww_iload_n C 1 rfl dX9_rings_56 ?_
          refine ww_iald C (shc_76 hs) h.1 dX9_rings_57 ?_
          have h := h.2
          refine ww_goto (tgt := 81) C dX9_rings_58 (by decide) ?_
          exact ww_iret C hr hlk h dX9_rings_81
      · have h := h.2 hc
        refine ww_aload_n C 0 rfl dX9_rings_38 ?_
        refine ww_getR C (shc_61 hs) rfl inG9 26 (by decide) nq_134 rfl dX9_rings_39 ?_
        refine ww_iload_n C 1 rfl dX9_rings_42 ?_
        refine ww_iald C (shc_75 hs) h.1 dX9_rings_43 ?_
        have h := h.2
        refine ww_goto (tgt := 81) C dX9_rings_44 (by decide) ?_
        exact ww_iret C hr hlk h dX9_rings_81
    · have h := h.2 hc
      refine ww_bipush (v := -2) C dX9_rings_26 (by decide) ?_
      exact ww_iret C hr hlk h dX9_rings_28
set_option maxRecDepth 100000 in
set_option maxHeartbeats 4000000 in
theorem c_X9_first {l : Launch} {dC : Nat → ClassId} {dI : Nat → Nat → Nat} {cA : Nat → ClassId} {al : Nat → Nat} {sh : List Kd} (hs : ShC sh) {σ : St} {Q : Int32 → St → Prop} (h : m_X9_first σ Q) : ∀ sz, Met l yX9_first (wd yX9_first cX9_first 1 (some .int)) (RM 5) (va_Pc ([.ref 61].map (cv al)) (WPre dC dI cA al sh σ sz)) (va_Qi Q (WPost dC dI cA al sh (AW al sh sz)) (AW al sh sz)) 0 0 (AW al sh sz) := by
  refine ww_met (Qc := fun A => va_Qi Q (WPost dC dI cA al sh A) A) (by decide +kernel) (Nat.le_of_ble_eq_true rfl) (fun p e s m args below meth c A C hr hlk => ?_)
  show WW p l e (RM 5) s m args below meth c (MQ below (va_Qi Q (WPost dC dI cA al sh A) A) args s 0 0 A) dC dI cA A 1 0 0 al sh 0 [(0, .ref 61)] [] σ
  unfold m_X9_first at h
  refine ww_aload_n C 0 rfl dX9_first_0 ?_
  refine ww_iconst (v := 0) C dX9_first_1 (by decide) ?_
  refine ww_vv (n := 1) (As := [.int 0]) (rest := []) C (c_X9_findRings hs h) (shc_61 hs) rfl nq_617 nq_618 nq_619 nq_5 nq_620 (by decide +kernel) rfl rfl ⟨Nat.le_of_ble_eq_true rfl, Nat.le_of_ble_eq_true rfl, Nat.le_of_ble_eq_true rfl, Nat.le_of_ble_eq_true rfl⟩ (Nat.le_of_ble_eq_true rfl) dX9_first_2 (fun σ2 h => ?_)
  refine ww_aload_n C 0 rfl dX9_first_5 ?_
  refine ww_getL C (shc_61 hs) rfl inG9 30 (by decide) nq_623 rfl dX9_first_6 ?_
  refine ww_l2i C dX9_first_9 ?_
  exact ww_iret C hr hlk h dX9_first_10
set_option maxRecDepth 100000 in
set_option maxHeartbeats 4000000 in
theorem c_X9_feasibleOn {l : Launch} {dC : Nat → ClassId} {dI : Nat → Nat → Nat} {cA : Nat → ClassId} {al : Nat → Nat} {sh : List Kd} (hs : ShC sh) {σ : St} {a1 : Int32} {Q : Int32 → St → Prop} (h : m_X9_feasibleOn σ a1 Q) : ∀ sz, Met l yX9_feasibleOn (wd yX9_feasibleOn cX9_feasibleOn 2 (some .int)) (RM 5) (va_Pc ([.ref 61, .int a1].map (cv al)) (WPre dC dI cA al sh σ sz)) (va_Qi Q (WPost dC dI cA al sh (AW al sh sz)) (AW al sh sz)) 0 0 (AW al sh sz) := by
  refine ww_met (Qc := fun A => va_Qi Q (WPost dC dI cA al sh A) A) (by decide +kernel) (Nat.le_of_ble_eq_true rfl) (fun p e s m args below meth c A C hr hlk => ?_)
  show WW p l e (RM 5) s m args below meth c (MQ below (va_Qi Q (WPost dC dI cA al sh A) A) args s 0 0 A) dC dI cA A 2 0 0 al sh 0 [(0, .ref 61), (1, .int a1)] [] σ
  unfold m_X9_feasibleOn at h
  refine ww_aload_n C 0 rfl dX9_feasibleOn_0 ?_
  refine ww_iload_n C 1 rfl dX9_feasibleOn_1 ?_
  refine ww_vv (n := 1) (As := [.int a1]) (rest := []) C (c_X9_findRings hs h) (shc_61 hs) rfl nq_617 nq_618 nq_619 nq_5 nq_620 (by decide +kernel) rfl rfl ⟨Nat.le_of_ble_eq_true rfl, Nat.le_of_ble_eq_true rfl, Nat.le_of_ble_eq_true rfl, Nat.le_of_ble_eq_true rfl⟩ (Nat.le_of_ble_eq_true rfl) dX9_feasibleOn_2 (fun σ2 h => ?_)
  refine ww_aload_n C 0 rfl dX9_feasibleOn_5 ?_
  refine ww_getR C (shc_61 hs) rfl inG9 29 (by decide) nq_137 rfl dX9_feasibleOn_6 ?_
  refine ww_iconst (v := 2) C dX9_feasibleOn_9 (by decide) ?_
  refine ww_iald C (shc_78 hs) (by unfold vp_in; decide) dX9_feasibleOn_10 ?_
  refine ww_aload_n C 0 rfl dX9_feasibleOn_11 ?_
  refine ww_getR C (shc_61 hs) rfl inG9 29 (by decide) nq_137 rfl dX9_feasibleOn_12 ?_
  refine ww_iconst (v := 3) C dX9_feasibleOn_15 (by decide) ?_
  refine ww_iald C (shc_78 hs) (by unfold vp_in; decide) dX9_feasibleOn_16 ?_
  refine ww_iadd C dX9_feasibleOn_17 ?_
  refine ww_aload_n C 0 rfl dX9_feasibleOn_18 ?_
  refine ww_getR C (shc_61 hs) rfl inG9 29 (by decide) nq_137 rfl dX9_feasibleOn_19 ?_
  refine ww_iconst (v := 4) C dX9_feasibleOn_22 (by decide) ?_
  refine ww_iald C (shc_78 hs) (by unfold vp_in; decide) dX9_feasibleOn_23 ?_
  refine ww_iadd C dX9_feasibleOn_24 ?_
  exact ww_iret C hr hlk h dX9_feasibleOn_25
set_option maxRecDepth 100000 in
set_option maxHeartbeats 4000000 in
theorem c_X9_isSo {l : Launch} {dC : Nat → ClassId} {dI : Nat → Nat → Nat} {cA : Nat → ClassId} {al : Nat → Nat} {sh : List Kd} (hs : ShC sh) {σ : St} {a1 : Int32} {a2 : Int32} {a3 : Int32} {Q : Int32 → St → Prop} (h : m_X9_isSo σ a1 a2 a3 Q) : ∀ sz, Met l yX9_isSo (wd yX9_isSo cX9_isSo 4 (some .boolean)) (RM 6) (va_Pc ([.ref 61, .int a1, .int a2, .int a3].map (cv al)) (WPre dC dI cA al sh σ sz)) (va_Qi Q (WPost dC dI cA al sh (AW al sh sz)) (AW al sh sz)) 0 0 (AW al sh sz) := by
  refine ww_met (Qc := fun A => va_Qi Q (WPost dC dI cA al sh A) A) (by decide +kernel) (Nat.le_of_ble_eq_true rfl) (fun p e s m args below meth c A C hr hlk => ?_)
  show WW p l e (RM 6) s m args below meth c (MQ below (va_Qi Q (WPost dC dI cA al sh A) A) args s 0 0 A) dC dI cA A 4 0 0 al sh 0 [(0, .ref 61), (1, .int a1), (2, .int a2), (3, .int a3)] [] σ
  unfold m_X9_isSo at h
  refine ww_aload_n C 0 rfl dX9_isSo_0 ?_
  refine ww_iconst (v := 1) C dX9_isSo_1 (by decide) ?_
  refine ww_vv (n := 1) (As := [.int 1]) (rest := []) C (c_X9_findHeld hs h) (shc_61 hs) rfl nq_323 nq_324 nq_325 nq_5 nq_326 (by decide +kernel) rfl rfl ⟨Nat.le_of_ble_eq_true rfl, Nat.le_of_ble_eq_true rfl, Nat.le_of_ble_eq_true rfl, Nat.le_of_ble_eq_true rfl⟩ (Nat.le_of_ble_eq_true rfl) dX9_isSo_2 (fun σ2 h => ?_)
  refine ww_iload_n C 1 rfl dX9_isSo_5 ?_
  by_cases hc3 : a1 = 3
  · refine ww_table (off := 30) (tgt := 36) C dX9_isSo_6 (by rw [hc3]; decide) (by rw [hc3]; decide) (by rw [hc3]; rfl) (by decide) ?_
    have h := h.1 hc3
    refine ww_aload_n C 0 rfl dX9_isSo_36 ?_
    refine ww_iconst (v := 1) C dX9_isSo_37 (by decide) ?_
    refine ww_iload_n C 2 rfl dX9_isSo_38 ?_
    refine ww_bipush (v := 10) C dX9_isSo_39 (by decide) ?_
    refine ww_idiv C dX9_isSo_41 (by decide) ?_
    refine ww_iconst (v := 4) C dX9_isSo_42 (by decide) ?_
    refine ww_irem C dX9_isSo_43 (by decide) ?_
    refine ww_aload_n C 0 rfl dX9_isSo_44 ?_
    refine ww_iconst (v := 1) C dX9_isSo_45 (by decide) ?_
    refine ww_vi (n := 1) (As := [.int 1]) (rest := [.int ((a2 / 10) - (a2 / 10) / 4 * 4), .int 1, .ref 61]) C (c_X9_many hs h) (shc_61 hs) rfl nq_291 nq_292 nq_293 nq_5 nq_294 (by decide +kernel) rfl rfl ⟨Nat.le_of_ble_eq_true rfl, Nat.le_of_ble_eq_true rfl, Nat.le_of_ble_eq_true rfl, Nat.le_of_ble_eq_true rfl⟩ (Nat.le_of_ble_eq_true rfl) dX9_isSo_46 (fun r46 σ46 h => ?_)
    refine ww_bipush (v := 15) C dX9_isSo_49 (by decide) ?_
    refine ww_iconst (v := 0) C dX9_isSo_51 (by decide) ?_
    refine ww_vv (n := 5) (As := [.int 1, .int ((a2 / 10) - (a2 / 10) / 4 * 4), .int r46, .int 15, .int 0]) (rest := []) C (c_X9_watchCell hs h) (shc_61 hs) rfl nq_485 nq_486 nq_487 nq_5 nq_488 (by decide +kernel) rfl rfl ⟨Nat.le_of_ble_eq_true rfl, Nat.le_of_ble_eq_true rfl, Nat.le_of_ble_eq_true rfl, Nat.le_of_ble_eq_true rfl⟩ (Nat.le_of_ble_eq_true rfl) dX9_isSo_52 (fun σ52 h => ?_)
    refine ww_iload_n C 2 rfl dX9_isSo_55 ?_
    refine ww_bipush (v := 10) C dX9_isSo_56 (by decide) ?_
    refine ww_irem C dX9_isSo_58 (by decide) ?_
    refine ww_if_ne (tgt := 84) C dX9_isSo_59 (by decide) (fun hc => ?_) (fun hc => ?_)
    · have h := h.1 hc
      refine ww_iconst (v := 0) C dX9_isSo_84 (by decide) ?_
      exact ww_zret C hr hlk (by decide) h dX9_isSo_85
    · have h := h.2 hc
      refine ww_iload_n C 2 rfl dX9_isSo_62 ?_
      refine ww_bipush (v := 10) C dX9_isSo_63 (by decide) ?_
      refine ww_idiv C dX9_isSo_65 (by decide) ?_
      refine ww_si (n := 1) (As := [.int (a2 / 10)]) (rest := []) C (c_X9_isFour hs h) nq_482 nq_483 nq_5 nq_484 (by decide +kernel) rfl rfl ⟨Nat.le_of_ble_eq_true rfl, Nat.le_of_ble_eq_true rfl, Nat.le_of_ble_eq_true rfl, Nat.le_of_ble_eq_true rfl⟩ (Nat.le_of_ble_eq_true rfl) dX9_isSo_66 (fun r66 σ66 h => ?_)
      refine ww_if_eq (tgt := 84) C dX9_isSo_69 (by decide) (fun hc => ?_) (fun hc => ?_)
      · have h := h.1 hc
        refine ww_iconst (v := 0) C dX9_isSo_84 (by decide) ?_
        exact ww_zret C hr hlk (by decide) h dX9_isSo_85
      · have h := h.2 hc
        refine ww_aload_n C 0 rfl dX9_isSo_72 ?_
        refine ww_getI C (shc_61 hs) rfl inG9 13 (by decide) nq_477 rfl dX9_isSo_73 ?_
        refine ww_iload_n C 3 rfl dX9_isSo_76 ?_
        refine ww_icmp_ne (tgt := 84) C dX9_isSo_77 (by decide) (fun hc => ?_) (fun hc => ?_)
        · have h := h.1 hc
          refine ww_iconst (v := 0) C dX9_isSo_84 (by decide) ?_
          exact ww_zret C hr hlk (by decide) h dX9_isSo_85
        · have h := h.2 hc
          refine ww_iconst (v := 1) C dX9_isSo_80 (by decide) ?_
          refine ww_goto (tgt := 85) C dX9_isSo_81 (by decide) ?_
          exact ww_zret C hr hlk (by decide) h dX9_isSo_85
  · skip
    by_cases hc4 : a1 = 4
    · refine ww_table (off := 80) (tgt := 86) C dX9_isSo_6 (by rw [hc4]; decide) (by rw [hc4]; decide) (by rw [hc4]; rfl) (by decide) ?_
      have h := h.2.1 hc4
      refine ww_iload_n C 2 rfl dX9_isSo_86 ?_
      refine ww_bipush (v := 10) C dX9_isSo_87 (by decide) ?_
      refine ww_irem C dX9_isSo_89 (by decide) ?_
      refine ww_if_ne (tgt := 139) C dX9_isSo_90 (by decide) (fun hc => ?_) (fun hc => ?_)
      · have h := h.1 hc
        refine ww_iconst (v := 0) C dX9_isSo_139 (by decide) ?_
        exact ww_zret C hr hlk (by decide) h dX9_isSo_140
      · have h := h.2 hc
        refine ww_iload_n C 2 rfl dX9_isSo_93 ?_
        refine ww_bipush (v := 10) C dX9_isSo_94 (by decide) ?_
        refine ww_idiv C dX9_isSo_96 (by decide) ?_
        refine ww_si (n := 1) (As := [.int (a2 / 10)]) (rest := []) C (c_X9_isFour hs h) nq_482 nq_483 nq_5 nq_484 (by decide +kernel) rfl rfl ⟨Nat.le_of_ble_eq_true rfl, Nat.le_of_ble_eq_true rfl, Nat.le_of_ble_eq_true rfl, Nat.le_of_ble_eq_true rfl⟩ (Nat.le_of_ble_eq_true rfl) dX9_isSo_97 (fun r97 σ97 h => ?_)
        refine ww_if_eq (tgt := 139) C dX9_isSo_100 (by decide) (fun hc => ?_) (fun hc => ?_)
        · have h := h.1 hc
          refine ww_iconst (v := 0) C dX9_isSo_139 (by decide) ?_
          exact ww_zret C hr hlk (by decide) h dX9_isSo_140
        · have h := h.2 hc
          refine ww_iload_n C 3 rfl dX9_isSo_103 ?_
          refine ww_iconst (v := 2) C dX9_isSo_104 (by decide) ?_
          refine ww_icmp_ge (tgt := 139) C dX9_isSo_105 (by decide) (fun hc => ?_) (fun hc => ?_)
          · have h := h.1 hc
            refine ww_iconst (v := 0) C dX9_isSo_139 (by decide) ?_
            exact ww_zret C hr hlk (by decide) h dX9_isSo_140
          · have h := h.2 hc
            refine ww_aload_n C 0 rfl dX9_isSo_108 ?_
            refine ww_iconst (v := 1) C dX9_isSo_109 (by decide) ?_
            refine ww_bipush (v := 15) C dX9_isSo_110 (by decide) ?_
            refine ww_vi (n := 2) (As := [.int 1, .int 15]) (rest := []) C (c_X9_flaggedOn hs h) (shc_61 hs) rfl nq_699 nq_700 nq_701 nq_5 nq_702 (by decide +kernel) rfl rfl ⟨Nat.le_of_ble_eq_true rfl, Nat.le_of_ble_eq_true rfl, Nat.le_of_ble_eq_true rfl, Nat.le_of_ble_eq_true rfl⟩ (Nat.le_of_ble_eq_true rfl) dX9_isSo_112 (fun r112 σ112 h => ?_)
            refine ww_iload_n C 2 rfl dX9_isSo_115 ?_
            refine ww_bipush (v := 10) C dX9_isSo_116 (by decide) ?_
            refine ww_idiv C dX9_isSo_118 (by decide) ?_
            refine ww_si (n := 2) (As := [.int r112, .int (a2 / 10)]) (rest := []) C (c_X9_has hs h) nq_244 nq_245 nq_5 nq_246 (by decide +kernel) rfl rfl ⟨Nat.le_of_ble_eq_true rfl, Nat.le_of_ble_eq_true rfl, Nat.le_of_ble_eq_true rfl, Nat.le_of_ble_eq_true rfl⟩ (Nat.le_of_ble_eq_true rfl) dX9_isSo_119 (fun r119 σ119 h => ?_)
            refine ww_iload_n C 3 rfl dX9_isSo_122 ?_
            refine ww_iconst (v := 1) C dX9_isSo_123 (by decide) ?_
            refine ww_icmp_ne (tgt := 131) C dX9_isSo_124 (by decide) (fun hc => ?_) (fun hc => ?_)
            · have h := h.1 hc
              refine ww_iconst (v := 0) C dX9_isSo_131 (by decide) ?_
              refine ww_icmp_ne (tgt := 139) C dX9_isSo_132 (by decide) (fun hc => ?_) (fun hc => ?_)
              · have h := h.1 hc
                refine ww_iconst (v := 0) C dX9_isSo_139 (by decide) ?_
                exact ww_zret C hr hlk (by decide) h dX9_isSo_140
              · have h := h.2 hc
                refine ww_iconst (v := 1) C dX9_isSo_135 (by decide) ?_
                refine ww_goto (tgt := 140) C dX9_isSo_136 (by decide) ?_
                exact ww_zret C hr hlk (by decide) h dX9_isSo_140
            · have h := h.2 hc
              refine ww_iconst (v := 1) C dX9_isSo_127 (by decide) ?_
              refine ww_goto (tgt := 132) C dX9_isSo_128 (by decide) ?_
              refine ww_icmp_ne (tgt := 139) C dX9_isSo_132 (by decide) (fun hc => ?_) (fun hc => ?_)
              · have h := h.1 hc
                refine ww_iconst (v := 0) C dX9_isSo_139 (by decide) ?_
                exact ww_zret C hr hlk (by decide) h dX9_isSo_140
              · have h := h.2 hc
                refine ww_iconst (v := 1) C dX9_isSo_135 (by decide) ?_
                refine ww_goto (tgt := 140) C dX9_isSo_136 (by decide) ?_
                exact ww_zret C hr hlk (by decide) h dX9_isSo_140
    · skip
      by_cases hc5 : a1 = 5
      · refine ww_table (off := 135) (tgt := 141) C dX9_isSo_6 (by rw [hc5]; decide) (by rw [hc5]; decide) (by rw [hc5]; rfl) (by decide) ?_
        have h := h.2.2.1 hc5
        refine ww_iload_n C 2 rfl dX9_isSo_141 ?_
        refine ww_if_ne (tgt := 158) C dX9_isSo_142 (by decide) (fun hc => ?_) (fun hc => ?_)
        · have h := h.1 hc
          refine ww_iconst (v := 0) C dX9_isSo_158 (by decide) ?_
          exact ww_zret C hr hlk (by decide) h dX9_isSo_159
        · have h := h.2 hc
          refine ww_aload_n C 0 rfl dX9_isSo_145 ?_
          refine ww_iconst (v := 1) C dX9_isSo_146 (by decide) ?_
          refine ww_vi (n := 1) (As := [.int 1]) (rest := []) C (c_X9_feasibleOn hs h) (shc_61 hs) rfl nq_703 nq_704 nq_705 nq_5 nq_706 (by decide +kernel) rfl rfl ⟨Nat.le_of_ble_eq_true rfl, Nat.le_of_ble_eq_true rfl, Nat.le_of_ble_eq_true rfl, Nat.le_of_ble_eq_true rfl⟩ (Nat.le_of_ble_eq_true rfl) dX9_isSo_147 (fun r147 σ147 h => ?_)
          refine ww_iload_n C 3 rfl dX9_isSo_150 ?_
          refine ww_icmp_lt (tgt := 158) C dX9_isSo_151 (by decide) (fun hc => ?_) (fun hc => ?_)
          · have h := h.1 hc
            refine ww_iconst (v := 0) C dX9_isSo_158 (by decide) ?_
            exact ww_zret C hr hlk (by decide) h dX9_isSo_159
          · have h := h.2 hc
            refine ww_iconst (v := 1) C dX9_isSo_154 (by decide) ?_
            refine ww_goto (tgt := 159) C dX9_isSo_155 (by decide) ?_
            exact ww_zret C hr hlk (by decide) h dX9_isSo_159
      · skip
        by_cases hc6 : a1 = 6
        · refine ww_table (off := 154) (tgt := 160) C dX9_isSo_6 (by rw [hc6]; decide) (by rw [hc6]; decide) (by rw [hc6]; rfl) (by decide) ?_
          have h := h.2.2.2.1 hc6
          refine ww_aload_n C 0 rfl dX9_isSo_160 ?_
          refine ww_iconst (v := 1) C dX9_isSo_161 (by decide) ?_
          refine ww_iload_n C 2 rfl dX9_isSo_162 ?_
          refine ww_vi (n := 2) (As := [.int 1, .int a2]) (rest := []) C (c_X9_isStep hs h) (shc_61 hs) rfl nq_319 nq_320 nq_321 nq_5 nq_322 (by decide +kernel) rfl rfl ⟨Nat.le_of_ble_eq_true rfl, Nat.le_of_ble_eq_true rfl, Nat.le_of_ble_eq_true rfl, Nat.le_of_ble_eq_true rfl⟩ (Nat.le_of_ble_eq_true rfl) dX9_isSo_163 (fun r163 σ163 h => ?_)
          refine ww_if_eq (tgt := 200) C dX9_isSo_166 (by decide) (fun hc => ?_) (fun hc => ?_)
          · have h := h.1 hc
            refine ww_iconst (v := 0) C dX9_isSo_200 (by decide) ?_
            exact ww_zret C hr hlk (by decide) h dX9_isSo_201
          · have h := h.2 hc
            refine ww_iload_n C 3 rfl dX9_isSo_169 ?_
            refine ww_si (n := 1) (As := [.int a3]) (rest := []) C (c_X9_isFour hs h) nq_482 nq_483 nq_5 nq_484 (by decide +kernel) rfl rfl ⟨Nat.le_of_ble_eq_true rfl, Nat.le_of_ble_eq_true rfl, Nat.le_of_ble_eq_true rfl, Nat.le_of_ble_eq_true rfl⟩ (Nat.le_of_ble_eq_true rfl) dX9_isSo_170 (fun r170 σ170 h => ?_)
            refine ww_if_eq (tgt := 200) C dX9_isSo_173 (by decide) (fun hc => ?_) (fun hc => ?_)
            · have h := h.1 hc
              refine ww_iconst (v := 0) C dX9_isSo_200 (by decide) ?_
              exact ww_zret C hr hlk (by decide) h dX9_isSo_201
            · have h := h.2 hc
              refine ww_aload_n C 0 rfl dX9_isSo_176 ?_
              refine ww_getR C (shc_61 hs) rfl inG9 8 (by decide) nq_126 rfl dX9_isSo_177 ?_
              refine ww_iload_n C 2 rfl dX9_isSo_180 ?_
              refine ww_iald C (shc_67 hs) h.1 dX9_isSo_181 ?_
              have h := h.2
              refine ww_aload_n C 0 rfl dX9_isSo_182 ?_
              refine ww_getR C (shc_61 hs) rfl inG9 9 (by decide) nq_127 rfl dX9_isSo_183 ?_
              refine ww_iload_n C 2 rfl dX9_isSo_186 ?_
              refine ww_iald C (shc_68 hs) h.1 dX9_isSo_187 ?_
              have h := h.2
              refine ww_ior C dX9_isSo_188 ?_
              refine ww_iload_n C 3 rfl dX9_isSo_189 ?_
              refine ww_si (n := 2) (As := [.int ((σ170.1 67 a2.toNatClampNeg) ||| (σ170.1 68 a2.toNatClampNeg)), .int a3]) (rest := []) C (c_X9_has hs h) nq_244 nq_245 nq_5 nq_246 (by decide +kernel) rfl rfl ⟨Nat.le_of_ble_eq_true rfl, Nat.le_of_ble_eq_true rfl, Nat.le_of_ble_eq_true rfl, Nat.le_of_ble_eq_true rfl⟩ (Nat.le_of_ble_eq_true rfl) dX9_isSo_190 (fun r190 σ190 h => ?_)
              refine ww_if_eq (tgt := 200) C dX9_isSo_193 (by decide) (fun hc => ?_) (fun hc => ?_)
              · have h := h.1 hc
                refine ww_iconst (v := 0) C dX9_isSo_200 (by decide) ?_
                exact ww_zret C hr hlk (by decide) h dX9_isSo_201
              · have h := h.2 hc
                refine ww_iconst (v := 1) C dX9_isSo_196 (by decide) ?_
                refine ww_goto (tgt := 201) C dX9_isSo_197 (by decide) ?_
                exact ww_zret C hr hlk (by decide) h dX9_isSo_201
        · skip
          have nhc3 := ne_toInt (n := 3) hc3
          have nhc4 := ne_toInt (n := 4) hc4
          have nhc5 := ne_toInt (n := 5) hc5
          have nhc6 := ne_toInt (n := 6) hc6
          refine ww_tableO (tgt := 202) C dX9_isSo_6 (by omega) (by decide) ?_
          have h := h.2.2.2.2 ⟨hc3, hc4, hc5, hc6⟩
          refine ww_iconst (v := 0) C dX9_isSo_202 (by decide) ?_
          exact ww_zret C hr hlk (by decide) h dX9_isSo_203
set_option maxRecDepth 100000 in
set_option maxHeartbeats 4000000 in
theorem w_X9_tryThing_L76b {p : Program} {l : Launch} {e : Env} {s : State} {m : MethodId} {args : Array Value} {below : List Frame} {meth : Method} {c : Code} {dC : Nat → ClassId} {dI : Nat → Nat → Nat} {cA : Nat → ClassId} {A : Nat → Prop} {al : Nat → Nat} {sh : List Kd} (C : Fx p s m args c cX9_tryThing 8 yX9_tryThing.cls dC dI cA A al) (hr : meth.sig.returnType = some .boolean) (hlk : meth.locks = false) (hs : ShC sh) {a1 : Int32} {a2 : Int32} {a3 : Int32} {Q : Int32 → St → Prop} {K106 : St → Prop} (hK106 : ∀ (σ : St), K106 σ → WW p l e (RM 7) s m args below meth c (MQ below (va_Qi Q (WPost dC dI cA al sh A) A) args s 0 0 A) dC dI cA A 8 0 0 al sh 106 [(0, .ref 61), (1, .int a1), (2, .int a2)] [] σ) {Rc : St → Int32 → Prop} (hRc : ∀ (σ : St) (x6 : Int32), Rc σ x6 → WW p l e (RM 7) s m args below meth c (MQ below (va_Qi Q (WPost dC dI cA al sh A) A) args s 0 0 A) dC dI cA A 8 0 0 al sh 76 [(0, .ref 61), (1, .int a1), (2, .int a2), (6, .int x6)] [] σ) {σ : St} {x6 : Int32} (h : m_X9_tryThing_L76b a1 a2 a3 Q K106 Rc σ x6) : WW p l e (RM 7) s m args below meth c (MQ below (va_Qi Q (WPost dC dI cA al sh A) A) args s 0 0 A) dC dI cA A 8 0 0 al sh 76 [(0, .ref 61), (1, .int a1), (2, .int a2), (6, .int x6)] [] σ := by
  unfold m_X9_tryThing_L76b at h
  refine ww_iload C 3 rfl dX9_tryThing_76 ?_
  refine ww_bipush (v := 21) C dX9_tryThing_78 (by decide) ?_
  refine ww_icmp_ge (tgt := 106) C dX9_tryThing_80 (by decide) (fun hc => ?_) (fun hc => ?_)
  · have h := h.1 hc
    refine ww_sub [0, 1, 2] rfl ?_
    exact hK106 _ h
  · have h := h.2 hc
    refine ww_aload_n C 0 rfl dX9_tryThing_83 ?_
    refine ww_getR C (shc_61 hs) rfl inG9 31 (by decide) nq_138 rfl dX9_tryThing_84 ?_
    refine ww_iload C 3 rfl dX9_tryThing_87 ?_
    refine ww_aload_n C 0 rfl dX9_tryThing_89 ?_
    refine ww_getR C (shc_61 hs) rfl inG9 4 (by decide) nq_123 rfl dX9_tryThing_90 ?_
    refine ww_bipush (v := 21) C dX9_tryThing_93 (by decide) ?_
    refine ww_iload C 3 rfl dX9_tryThing_95 ?_
    refine ww_iadd C dX9_tryThing_97 ?_
    refine ww_iald C (shc_64 hs) h.1 dX9_tryThing_98 ?_
    have h := h.2
    refine ww_iast C (shc_79 hs) h.1 dX9_tryThing_99 h.2 (fun σ99 h => ?_)
    refine ww_iinc (v := (x6 + 1)) (lv' := [(6, .int (x6 + 1)), (0, .ref 61), (1, .int a1), (2, .int a2)]) C 3 rfl dX9_tryThing_100 rfl (by decide) rfl ?_
    refine ww_goto (tgt := 76) C dX9_tryThing_103 (by decide) ?_
    refine ww_sub [1, 2, 3, 0] rfl ?_
    exact hRc _ _ h
set_option maxRecDepth 100000 in
set_option maxHeartbeats 4000000 in
theorem w_X9_tryThing_L76 {p : Program} {l : Launch} {e : Env} {s : State} {m : MethodId} {args : Array Value} {below : List Frame} {meth : Method} {c : Code} {dC : Nat → ClassId} {dI : Nat → Nat → Nat} {cA : Nat → ClassId} {A : Nat → Prop} {al : Nat → Nat} {sh : List Kd} (C : Fx p s m args c cX9_tryThing 8 yX9_tryThing.cls dC dI cA A al) (hr : meth.sig.returnType = some .boolean) (hlk : meth.locks = false) (hs : ShC sh) {a1 : Int32} {a2 : Int32} {a3 : Int32} {Q : Int32 → St → Prop} {K106 : St → Prop} (hK106 : ∀ (σ : St), K106 σ → WW p l e (RM 7) s m args below meth c (MQ below (va_Qi Q (WPost dC dI cA al sh A) A) args s 0 0 A) dC dI cA A 8 0 0 al sh 106 [(0, .ref 61), (1, .int a1), (2, .int a2)] [] σ) : ∀ (f : Nat) (σ : St) (x6 : Int32), m_X9_tryThing_L76 a1 a2 a3 Q K106 f σ x6 → WW p l e (RM 7) s m args below meth c (MQ below (va_Qi Q (WPost dC dI cA al sh A) A) args s 0 0 A) dC dI cA A 8 0 0 al sh 76 [(0, .ref 61), (1, .int a1), (2, .int a2), (6, .int x6)] [] σ := by
  intro f
  induction f with
  | zero => intro σ x6 h; exact False.elim h
  | succ f ih => intro σ x6 h; exact w_X9_tryThing_L76b (Q := Q) (a1 := a1) (a2 := a2) (a3 := a3) C hr hlk hs hK106 ih h
set_option maxRecDepth 100000 in
set_option maxHeartbeats 4000000 in
theorem w_X9_tryThing_L136b {p : Program} {l : Launch} {e : Env} {s : State} {m : MethodId} {args : Array Value} {below : List Frame} {meth : Method} {c : Code} {dC : Nat → ClassId} {dI : Nat → Nat → Nat} {cA : Nat → ClassId} {A : Nat → Prop} {al : Nat → Nat} {sh : List Kd} (C : Fx p s m args c cX9_tryThing 8 yX9_tryThing.cls dC dI cA A al) (hr : meth.sig.returnType = some .boolean) (hlk : meth.locks = false) (hs : ShC sh) {a1 : Int32} {a2 : Int32} {a3 : Int32} {Q : Int32 → St → Prop} {x6 : Int32} {K171 : St → Prop} (hK171 : ∀ (σ : St), K171 σ → WW p l e (RM 7) s m args below meth c (MQ below (va_Qi Q (WPost dC dI cA al sh A) A) args s 0 0 A) dC dI cA A 8 0 0 al sh 171 [(6, .int x6)] [] σ) {Rc : St → Int32 → Prop} (hRc : ∀ (σ : St) (x7 : Int32), Rc σ x7 → WW p l e (RM 7) s m args below meth c (MQ below (va_Qi Q (WPost dC dI cA al sh A) A) args s 0 0 A) dC dI cA A 8 0 0 al sh 136 [(0, .ref 61), (6, .int x6), (7, .int x7)] [] σ) {σ : St} {x7 : Int32} (h : m_X9_tryThing_L136b a1 a2 a3 Q x6 K171 Rc σ x7) : WW p l e (RM 7) s m args below meth c (MQ below (va_Qi Q (WPost dC dI cA al sh A) A) args s 0 0 A) dC dI cA A 8 0 0 al sh 136 [(0, .ref 61), (6, .int x6), (7, .int x7)] [] σ := by
  unfold m_X9_tryThing_L136b at h
  refine ww_iload C 2 rfl dX9_tryThing_136 ?_
  refine ww_bipush (v := 21) C dX9_tryThing_138 (by decide) ?_
  refine ww_icmp_ge (tgt := 171) C dX9_tryThing_140 (by decide) (fun hc => ?_) (fun hc => ?_)
  · have h := h.1 hc
    refine ww_sub [1] rfl ?_
    exact hK171 _ h
  · have h := h.2 hc
    refine ww_iload C 1 rfl dX9_tryThing_143 ?_
    refine ww_if_ne (tgt := 171) C dX9_tryThing_145 (by decide) (fun hc => ?_) (fun hc => ?_)
    · have h := h.1 hc
      refine ww_sub [1] rfl ?_
      exact hK171 _ h
    · have h := h.2 hc
      refine ww_aload_n C 0 rfl dX9_tryThing_148 ?_
      refine ww_getR C (shc_61 hs) rfl inG9 4 (by decide) nq_123 rfl dX9_tryThing_149 ?_
      refine ww_bipush (v := 21) C dX9_tryThing_152 (by decide) ?_
      refine ww_iload C 2 rfl dX9_tryThing_154 ?_
      refine ww_iadd C dX9_tryThing_156 ?_
      refine ww_aload_n C 0 rfl dX9_tryThing_157 ?_
      refine ww_getR C (shc_61 hs) rfl inG9 31 (by decide) nq_138 rfl dX9_tryThing_158 ?_
      refine ww_iload C 2 rfl dX9_tryThing_161 ?_
      refine ww_iald C (shc_79 hs) h.1 dX9_tryThing_163 ?_
      have h := h.2
      refine ww_iast C (shc_64 hs) h.1 dX9_tryThing_164 h.2 (fun σ164 h => ?_)
      refine ww_iinc (v := (x7 + 1)) (lv' := [(7, .int (x7 + 1)), (0, .ref 61), (6, .int x6)]) C 2 rfl dX9_tryThing_165 rfl (by decide) rfl ?_
      refine ww_goto (tgt := 136) C dX9_tryThing_168 (by decide) ?_
      refine ww_sub [1, 2, 0] rfl ?_
      exact hRc _ _ h
set_option maxRecDepth 100000 in
set_option maxHeartbeats 4000000 in
theorem w_X9_tryThing_L136 {p : Program} {l : Launch} {e : Env} {s : State} {m : MethodId} {args : Array Value} {below : List Frame} {meth : Method} {c : Code} {dC : Nat → ClassId} {dI : Nat → Nat → Nat} {cA : Nat → ClassId} {A : Nat → Prop} {al : Nat → Nat} {sh : List Kd} (C : Fx p s m args c cX9_tryThing 8 yX9_tryThing.cls dC dI cA A al) (hr : meth.sig.returnType = some .boolean) (hlk : meth.locks = false) (hs : ShC sh) {a1 : Int32} {a2 : Int32} {a3 : Int32} {Q : Int32 → St → Prop} {x6 : Int32} {K171 : St → Prop} (hK171 : ∀ (σ : St), K171 σ → WW p l e (RM 7) s m args below meth c (MQ below (va_Qi Q (WPost dC dI cA al sh A) A) args s 0 0 A) dC dI cA A 8 0 0 al sh 171 [(6, .int x6)] [] σ) : ∀ (f : Nat) (σ : St) (x7 : Int32), m_X9_tryThing_L136 a1 a2 a3 Q x6 K171 f σ x7 → WW p l e (RM 7) s m args below meth c (MQ below (va_Qi Q (WPost dC dI cA al sh A) A) args s 0 0 A) dC dI cA A 8 0 0 al sh 136 [(0, .ref 61), (6, .int x6), (7, .int x7)] [] σ := by
  intro f
  induction f with
  | zero => intro σ x7 h; exact False.elim h
  | succ f ih => intro σ x7 h; exact w_X9_tryThing_L136b (Q := Q) (a1 := a1) (a2 := a2) (a3 := a3) C hr hlk hs hK171 ih h
set_option maxRecDepth 100000 in
set_option maxHeartbeats 4000000 in
theorem w_X9_tryThing_J171 {p : Program} {l : Launch} {e : Env} {s : State} {m : MethodId} {args : Array Value} {below : List Frame} {meth : Method} {c : Code} {dC : Nat → ClassId} {dI : Nat → Nat → Nat} {cA : Nat → ClassId} {A : Nat → Prop} {al : Nat → Nat} {sh : List Kd} (C : Fx p s m args c cX9_tryThing 8 yX9_tryThing.cls dC dI cA A al) (hr : meth.sig.returnType = some .boolean) (hlk : meth.locks = false) (hs : ShC sh) {a1 : Int32} {a2 : Int32} {a3 : Int32} {Q : Int32 → St → Prop} {σ : St} {x6 : Int32} (h : m_X9_tryThing_J171 a1 a2 a3 Q σ x6) : WW p l e (RM 7) s m args below meth c (MQ below (va_Qi Q (WPost dC dI cA al sh A) A) args s 0 0 A) dC dI cA A 8 0 0 al sh 171 [(6, .int x6)] [] σ := by
  unfold m_X9_tryThing_J171 at h
  refine ww_iload C 0 rfl dX9_tryThing_171 ?_
  exact ww_zret C hr hlk h.1 h.2 dX9_tryThing_173
set_option maxRecDepth 100000 in
set_option maxHeartbeats 4000000 in
theorem w_X9_tryThing_J126 {p : Program} {l : Launch} {e : Env} {s : State} {m : MethodId} {args : Array Value} {below : List Frame} {meth : Method} {c : Code} {dC : Nat → ClassId} {dI : Nat → Nat → Nat} {cA : Nat → ClassId} {A : Nat → Prop} {al : Nat → Nat} {sh : List Kd} (C : Fx p s m args c cX9_tryThing 8 yX9_tryThing.cls dC dI cA A al) (hr : meth.sig.returnType = some .boolean) (hlk : meth.locks = false) (hs : ShC sh) {a1 : Int32} {a2 : Int32} {a3 : Int32} {Q : Int32 → St → Prop} {σ : St} (h : m_X9_tryThing_J126 a1 a2 a3 Q σ) : WW p l e (RM 7) s m args below meth c (MQ below (va_Qi Q (WPost dC dI cA al sh A) A) args s 0 0 A) dC dI cA A 8 0 0 al sh 126 [(0, .ref 61)] [] σ := by
  unfold m_X9_tryThing_J126 at h
  refine ww_aload_n C 0 rfl dX9_tryThing_126 ?_
  refine ww_iconst (v := 1) C dX9_tryThing_127 (by decide) ?_
  refine ww_vi (n := 1) (As := [.int 1]) (rest := []) C (c_X9_isTrace hs h) (shc_61 hs) rfl nq_380 nq_381 nq_382 nq_5 nq_383 (by decide +kernel) rfl rfl ⟨Nat.le_of_ble_eq_true rfl, Nat.le_of_ble_eq_true rfl, Nat.le_of_ble_eq_true rfl, Nat.le_of_ble_eq_true rfl⟩ (Nat.le_of_ble_eq_true rfl) dX9_tryThing_128 (fun r128 σ128 h => ?_)
  refine ww_istore (lv' := [(6, .int r128), (0, .ref 61)]) C dX9_tryThing_131 (by decide) rfl ?_
  refine ww_iconst (v := 0) C dX9_tryThing_133 (by decide) ?_
  refine ww_istore (lv' := [(7, .int 0), (6, .int r128), (0, .ref 61)]) C dX9_tryThing_134 (by decide) rfl ?_
  refine ww_sub [2, 1, 0] rfl ?_
  obtain ⟨f, h⟩ := h
  exact w_X9_tryThing_L136 (Q := Q) (a1 := a1) (a2 := a2) (a3 := a3) C hr hlk hs (fun σ h => by exact w_X9_tryThing_J171 (Q := Q) (a1 := a1) (a2 := a2) (a3 := a3) C hr hlk hs h) f _ _ h
set_option maxRecDepth 100000 in
set_option maxHeartbeats 4000000 in
theorem w_X9_tryThing_J106 {p : Program} {l : Launch} {e : Env} {s : State} {m : MethodId} {args : Array Value} {below : List Frame} {meth : Method} {c : Code} {dC : Nat → ClassId} {dI : Nat → Nat → Nat} {cA : Nat → ClassId} {A : Nat → Prop} {al : Nat → Nat} {sh : List Kd} (C : Fx p s m args c cX9_tryThing 8 yX9_tryThing.cls dC dI cA A al) (hr : meth.sig.returnType = some .boolean) (hlk : meth.locks = false) (hs : ShC sh) {a1 : Int32} {a2 : Int32} {a3 : Int32} {Q : Int32 → St → Prop} {σ : St} (h : m_X9_tryThing_J106 a1 a2 a3 Q σ) : WW p l e (RM 7) s m args below meth c (MQ below (va_Qi Q (WPost dC dI cA al sh A) A) args s 0 0 A) dC dI cA A 8 0 0 al sh 106 [(0, .ref 61), (1, .int a1), (2, .int a2)] [] σ := by
  unfold m_X9_tryThing_J106 at h
  refine ww_iload_n C 1 rfl dX9_tryThing_106 ?_
  refine ww_iconst (v := 1) C dX9_tryThing_107 (by decide) ?_
  refine ww_icmp_ne (tgt := 120) C dX9_tryThing_108 (by decide) (fun hc => ?_) (fun hc => ?_)
  · have h := h.1 hc
    refine ww_aload_n C 0 rfl dX9_tryThing_120 ?_
    refine ww_iconst (v := 1) C dX9_tryThing_121 (by decide) ?_
    refine ww_iload_n C 2 rfl dX9_tryThing_122 ?_
    refine ww_vv (n := 2) (As := [.int 1, .int a2]) (rest := []) C (c_X9_swapOn hs h) (shc_61 hs) rfl nq_410 nq_411 nq_412 nq_5 nq_413 (by decide +kernel) rfl rfl ⟨Nat.le_of_ble_eq_true rfl, Nat.le_of_ble_eq_true rfl, Nat.le_of_ble_eq_true rfl, Nat.le_of_ble_eq_true rfl⟩ (Nat.le_of_ble_eq_true rfl) dX9_tryThing_123 (fun σ123 h => ?_)
    refine ww_sub [0] rfl ?_
    exact w_X9_tryThing_J126 (Q := Q) (a1 := a1) (a2 := a2) (a3 := a3) C hr hlk hs h
  · have h := h.2 hc
    refine ww_aload_n C 0 rfl dX9_tryThing_111 ?_
    refine ww_iconst (v := 1) C dX9_tryThing_112 (by decide) ?_
    refine ww_iload_n C 2 rfl dX9_tryThing_113 ?_
    refine ww_vv (n := 2) (As := [.int 1, .int a2]) (rest := []) C (c_X9_dropOn hs h) (shc_61 hs) rfl nq_372 nq_373 nq_374 nq_5 nq_375 (by decide +kernel) rfl rfl ⟨Nat.le_of_ble_eq_true rfl, Nat.le_of_ble_eq_true rfl, Nat.le_of_ble_eq_true rfl, Nat.le_of_ble_eq_true rfl⟩ (Nat.le_of_ble_eq_true rfl) dX9_tryThing_114 (fun σ114 h => ?_)
    refine ww_goto (tgt := 126) C dX9_tryThing_117 (by decide) ?_
    refine ww_sub [0] rfl ?_
    exact w_X9_tryThing_J126 (Q := Q) (a1 := a1) (a2 := a2) (a3 := a3) C hr hlk hs h
set_option maxRecDepth 100000 in
set_option maxHeartbeats 4000000 in
theorem w_X9_tryThing_J64 {p : Program} {l : Launch} {e : Env} {s : State} {m : MethodId} {args : Array Value} {below : List Frame} {meth : Method} {c : Code} {dC : Nat → ClassId} {dI : Nat → Nat → Nat} {cA : Nat → ClassId} {A : Nat → Prop} {al : Nat → Nat} {sh : List Kd} (C : Fx p s m args c cX9_tryThing 8 yX9_tryThing.cls dC dI cA A al) (hr : meth.sig.returnType = some .boolean) (hlk : meth.locks = false) (hs : ShC sh) {a1 : Int32} {a2 : Int32} {a3 : Int32} {Q : Int32 → St → Prop} {σ : St} {t0 : Int32} (h : m_X9_tryThing_J64 a1 a2 a3 Q σ t0) : WW p l e (RM 7) s m args below meth c (MQ below (va_Qi Q (WPost dC dI cA al sh A) A) args s 0 0 A) dC dI cA A 8 0 0 al sh 64 [(0, .ref 61), (1, .int a1), (2, .int a2)] [.int t0] σ := by
  unfold m_X9_tryThing_J64 at h
  refine ww_istore (lv' := [(5, .int t0), (0, .ref 61), (1, .int a1), (2, .int a2)]) C dX9_tryThing_64 (by decide) rfl ?_
  refine ww_iload C 0 rfl dX9_tryThing_66 ?_
  refine ww_if_ne (tgt := 73) C dX9_tryThing_68 (by decide) (fun hc => ?_) (fun hc => ?_)
  · have h := h.1 hc
    refine ww_iconst (v := 0) C dX9_tryThing_73 (by decide) ?_
    refine ww_istore (lv' := [(6, .int 0), (5, .int t0), (0, .ref 61), (1, .int a1), (2, .int a2)]) C dX9_tryThing_74 (by decide) rfl ?_
    refine ww_sub [2, 3, 4, 0] rfl ?_
    obtain ⟨f, h⟩ := h
    exact w_X9_tryThing_L76 (Q := Q) (a1 := a1) (a2 := a2) (a3 := a3) C hr hlk hs (fun σ h => by exact w_X9_tryThing_J106 (Q := Q) (a1 := a1) (a2 := a2) (a3 := a3) C hr hlk hs h) f _ _ h
  · have h := h.2 hc
    refine ww_iconst (v := 0) C dX9_tryThing_71 (by decide) ?_
    exact ww_zret C hr hlk (by decide) h dX9_tryThing_72
set_option maxRecDepth 100000 in
set_option maxHeartbeats 4000000 in
theorem w_X9_tryThing_J63 {p : Program} {l : Launch} {e : Env} {s : State} {m : MethodId} {args : Array Value} {below : List Frame} {meth : Method} {c : Code} {dC : Nat → ClassId} {dI : Nat → Nat → Nat} {cA : Nat → ClassId} {A : Nat → Prop} {al : Nat → Nat} {sh : List Kd} (C : Fx p s m args c cX9_tryThing 8 yX9_tryThing.cls dC dI cA A al) (hr : meth.sig.returnType = some .boolean) (hlk : meth.locks = false) (hs : ShC sh) {a1 : Int32} {a2 : Int32} {a3 : Int32} {Q : Int32 → St → Prop} {σ : St} (h : m_X9_tryThing_J63 a1 a2 a3 Q σ) : WW p l e (RM 7) s m args below meth c (MQ below (va_Qi Q (WPost dC dI cA al sh A) A) args s 0 0 A) dC dI cA A 8 0 0 al sh 63 [(0, .ref 61), (1, .int a1), (2, .int a2)] [] σ := by
  unfold m_X9_tryThing_J63 at h
  refine ww_iconst (v := 0) C dX9_tryThing_63 (by decide) ?_
  exact w_X9_tryThing_J64 (Q := Q) (a1 := a1) (a2 := a2) (a3 := a3) C hr hlk hs h
set_option maxRecDepth 100000 in
set_option maxHeartbeats 4000000 in
theorem w_X9_tryThing_J59 {p : Program} {l : Launch} {e : Env} {s : State} {m : MethodId} {args : Array Value} {below : List Frame} {meth : Method} {c : Code} {dC : Nat → ClassId} {dI : Nat → Nat → Nat} {cA : Nat → ClassId} {A : Nat → Prop} {al : Nat → Nat} {sh : List Kd} (C : Fx p s m args c cX9_tryThing 8 yX9_tryThing.cls dC dI cA A al) (hr : meth.sig.returnType = some .boolean) (hlk : meth.locks = false) (hs : ShC sh) {a1 : Int32} {a2 : Int32} {a3 : Int32} {Q : Int32 → St → Prop} {σ : St} (h : m_X9_tryThing_J59 a1 a2 a3 Q σ) : WW p l e (RM 7) s m args below meth c (MQ below (va_Qi Q (WPost dC dI cA al sh A) A) args s 0 0 A) dC dI cA A 8 0 0 al sh 59 [(0, .ref 61), (1, .int a1), (2, .int a2)] [] σ := by
  unfold m_X9_tryThing_J59 at h
  refine ww_iconst (v := 1) C dX9_tryThing_59 (by decide) ?_
  refine ww_goto (tgt := 64) C dX9_tryThing_60 (by decide) ?_
  exact w_X9_tryThing_J64 (Q := Q) (a1 := a1) (a2 := a2) (a3 := a3) C hr hlk hs h
set_option maxRecDepth 100000 in
set_option maxHeartbeats 4000000 in
theorem w_X9_tryThing_J15 {p : Program} {l : Launch} {e : Env} {s : State} {m : MethodId} {args : Array Value} {below : List Frame} {meth : Method} {c : Code} {dC : Nat → ClassId} {dI : Nat → Nat → Nat} {cA : Nat → ClassId} {A : Nat → Prop} {al : Nat → Nat} {sh : List Kd} (C : Fx p s m args c cX9_tryThing 8 yX9_tryThing.cls dC dI cA A al) (hr : meth.sig.returnType = some .boolean) (hlk : meth.locks = false) (hs : ShC sh) {a1 : Int32} {a2 : Int32} {a3 : Int32} {Q : Int32 → St → Prop} {σ : St} {t0 : Int32} (h : m_X9_tryThing_J15 a1 a2 a3 Q σ t0) : WW p l e (RM 7) s m args below meth c (MQ below (va_Qi Q (WPost dC dI cA al sh A) A) args s 0 0 A) dC dI cA A 8 0 0 al sh 15 [(0, .ref 61), (1, .int a1), (2, .int a2), (3, .int a3)] [.int t0] σ := by
  unfold m_X9_tryThing_J15 at h
  refine ww_istore (lv' := [(4, .int t0), (0, .ref 61), (1, .int a1), (2, .int a2), (3, .int a3)]) C dX9_tryThing_15 (by decide) rfl ?_
  refine ww_iload C 0 rfl dX9_tryThing_17 ?_
  refine ww_if_ne (tgt := 30) C dX9_tryThing_19 (by decide) (fun hc => ?_) (fun hc => ?_)
  · have h := h.1 hc
    refine ww_iload_n C 4 rfl dX9_tryThing_30 ?_
    refine ww_if_ne (tgt := 63) C dX9_tryThing_31 (by decide) (fun hc => ?_) (fun hc => ?_)
    · have h := h.1 hc
      refine ww_sub [1, 2, 3] rfl ?_
      exact w_X9_tryThing_J63 (Q := Q) (a1 := a1) (a2 := a2) (a3 := a3) C hr hlk hs h
    · have h := h.2 hc
      refine ww_aload_n C 1 rfl dX9_tryThing_34 ?_
      refine ww_iconst (v := 1) C dX9_tryThing_35 (by decide) ?_
      refine ww_iload_n C 3 rfl dX9_tryThing_36 ?_
      refine ww_vi (n := 2) (As := [.int 1, .int a2]) (rest := []) C (c_X9_isStep hs h) (shc_61 hs) rfl nq_319 nq_320 nq_321 nq_5 nq_322 (by decide +kernel) rfl rfl ⟨Nat.le_of_ble_eq_true rfl, Nat.le_of_ble_eq_true rfl, Nat.le_of_ble_eq_true rfl, Nat.le_of_ble_eq_true rfl⟩ (Nat.le_of_ble_eq_true rfl) dX9_tryThing_37 (fun r37 σ37 h => ?_)
      refine ww_if_eq (tgt := 63) C dX9_tryThing_40 (by decide) (fun hc => ?_) (fun hc => ?_)
      · have h := h.1 hc
        refine ww_sub [1, 2, 3] rfl ?_
        exact w_X9_tryThing_J63 (Q := Q) (a1 := a1) (a2 := a2) (a3 := a3) C hr hlk hs h
      · have h := h.2 hc
        refine ww_iload_n C 2 rfl dX9_tryThing_43 ?_
        refine ww_iconst (v := 1) C dX9_tryThing_44 (by decide) ?_
        refine ww_icmp_eq (tgt := 59) C dX9_tryThing_45 (by decide) (fun hc => ?_) (fun hc => ?_)
        · have h := h.1 hc
          refine ww_sub [1, 2, 3] rfl ?_
          exact w_X9_tryThing_J59 (Q := Q) (a1 := a1) (a2 := a2) (a3 := a3) C hr hlk hs h
        · have h := h.2 hc
          refine ww_iload_n C 3 rfl dX9_tryThing_48 ?_
          refine ww_aload_n C 1 rfl dX9_tryThing_49 ?_
          refine ww_iconst (v := 1) C dX9_tryThing_50 (by decide) ?_
          refine ww_vi (n := 1) (As := [.int 1]) (rest := [.int a2]) C (c_X9_many hs h) (shc_61 hs) rfl nq_291 nq_292 nq_293 nq_5 nq_294 (by decide +kernel) rfl rfl ⟨Nat.le_of_ble_eq_true rfl, Nat.le_of_ble_eq_true rfl, Nat.le_of_ble_eq_true rfl, Nat.le_of_ble_eq_true rfl⟩ (Nat.le_of_ble_eq_true rfl) dX9_tryThing_51 (fun r51 σ51 h => ?_)
          refine ww_iconst (v := 1) C dX9_tryThing_54 (by decide) ?_
          refine ww_isub C dX9_tryThing_55 ?_
          refine ww_icmp_ge (tgt := 63) C dX9_tryThing_56 (by decide) (fun hc => ?_) (fun hc => ?_)
          · have h := h.1 hc
            refine ww_sub [1, 2, 3] rfl ?_
            exact w_X9_tryThing_J63 (Q := Q) (a1 := a1) (a2 := a2) (a3 := a3) C hr hlk hs h
          · have h := h.2 hc
            refine ww_sub [1, 2, 3] rfl ?_
            exact w_X9_tryThing_J59 (Q := Q) (a1 := a1) (a2 := a2) (a3 := a3) C hr hlk hs h
  · have h := h.2 hc
    refine ww_aload_n C 1 rfl dX9_tryThing_22 ?_
    refine ww_iload_n C 2 rfl dX9_tryThing_23 ?_
    refine ww_iload_n C 3 rfl dX9_tryThing_24 ?_
    refine ww_iload_n C 4 rfl dX9_tryThing_25 ?_
    refine ww_vi (n := 3) (As := [.int a1, .int a2, .int a3]) (rest := []) C (c_X9_isSo hs h) (shc_61 hs) rfl nq_695 nq_696 nq_697 nq_5 nq_698 (by decide +kernel) rfl rfl ⟨Nat.le_of_ble_eq_true rfl, Nat.le_of_ble_eq_true rfl, Nat.le_of_ble_eq_true rfl, Nat.le_of_ble_eq_true rfl⟩ (Nat.le_of_ble_eq_true rfl) dX9_tryThing_26 (fun r26 σ26 h => ?_)
    exact ww_zret C hr hlk h.1 h.2 dX9_tryThing_29
set_option maxRecDepth 100000 in
set_option maxHeartbeats 4000000 in
theorem w_X9_tryThing_J10 {p : Program} {l : Launch} {e : Env} {s : State} {m : MethodId} {args : Array Value} {below : List Frame} {meth : Method} {c : Code} {dC : Nat → ClassId} {dI : Nat → Nat → Nat} {cA : Nat → ClassId} {A : Nat → Prop} {al : Nat → Nat} {sh : List Kd} (C : Fx p s m args c cX9_tryThing 8 yX9_tryThing.cls dC dI cA A al) (hr : meth.sig.returnType = some .boolean) (hlk : meth.locks = false) (hs : ShC sh) {a1 : Int32} {a2 : Int32} {a3 : Int32} {Q : Int32 → St → Prop} {σ : St} (h : m_X9_tryThing_J10 a1 a2 a3 Q σ) : WW p l e (RM 7) s m args below meth c (MQ below (va_Qi Q (WPost dC dI cA al sh A) A) args s 0 0 A) dC dI cA A 8 0 0 al sh 10 [(0, .ref 61), (1, .int a1), (2, .int a2), (3, .int a3)] [] σ := by
  unfold m_X9_tryThing_J10 at h
  refine ww_iconst (v := 1) C dX9_tryThing_10 (by decide) ?_
  refine ww_goto (tgt := 15) C dX9_tryThing_11 (by decide) ?_
  exact w_X9_tryThing_J15 (Q := Q) (a1 := a1) (a2 := a2) (a3 := a3) C hr hlk hs h
set_option maxRecDepth 100000 in
set_option maxHeartbeats 4000000 in
theorem c_X9_tryThing {l : Launch} {dC : Nat → ClassId} {dI : Nat → Nat → Nat} {cA : Nat → ClassId} {al : Nat → Nat} {sh : List Kd} (hs : ShC sh) {σ : St} {a1 : Int32} {a2 : Int32} {a3 : Int32} {Q : Int32 → St → Prop} (h : m_X9_tryThing σ a1 a2 a3 Q) : ∀ sz, Met l yX9_tryThing (wd yX9_tryThing cX9_tryThing 8 (some .boolean)) (RM 7) (va_Pc ([.ref 61, .int a1, .int a2, .int a3].map (cv al)) (WPre dC dI cA al sh σ sz)) (va_Qi Q (WPost dC dI cA al sh (AW al sh sz)) (AW al sh sz)) 0 0 (AW al sh sz) := by
  refine ww_met (Qc := fun A => va_Qi Q (WPost dC dI cA al sh A) A) (by decide +kernel) (Nat.le_of_ble_eq_true rfl) (fun p e s m args below meth c A C hr hlk => ?_)
  show WW p l e (RM 7) s m args below meth c (MQ below (va_Qi Q (WPost dC dI cA al sh A) A) args s 0 0 A) dC dI cA A 8 0 0 al sh 0 [(0, .ref 61), (1, .int a1), (2, .int a2), (3, .int a3)] [] σ
  unfold m_X9_tryThing at h
  refine ww_iload_n C 1 rfl dX9_tryThing_0 ?_
  refine ww_iconst (v := 1) C dX9_tryThing_1 (by decide) ?_
  refine ww_icmp_eq (tgt := 10) C dX9_tryThing_2 (by decide) (fun hc => ?_) (fun hc => ?_)
  · have h := h.1 hc
    exact w_X9_tryThing_J10 (Q := Q) (a1 := a1) (a2 := a2) (a3 := a3) C hr hlk hs h
  · have h := h.2 hc
    refine ww_iload_n C 1 rfl dX9_tryThing_5 ?_
    refine ww_iconst (v := 2) C dX9_tryThing_6 (by decide) ?_
    refine ww_icmp_ne (tgt := 14) C dX9_tryThing_7 (by decide) (fun hc => ?_) (fun hc => ?_)
    · have h := h.1 hc
      refine ww_iconst (v := 0) C dX9_tryThing_14 (by decide) ?_
      exact w_X9_tryThing_J15 (Q := Q) (a1 := a1) (a2 := a2) (a3 := a3) C hr hlk hs h
    · have h := h.2 hc
      exact w_X9_tryThing_J10 (Q := Q) (a1 := a1) (a2 := a2) (a3 := a3) C hr hlk hs h
set_option maxRecDepth 100000 in
set_option maxHeartbeats 4000000 in
theorem w_X9_tenThousandTo_L4b {p : Program} {l : Launch} {e : Env} {s : State} {m : MethodId} {args : Array Value} {below : List Frame} {meth : Method} {c : Code} {dC : Nat → ClassId} {dI : Nat → Nat → Nat} {cA : Nat → ClassId} {A : Nat → Prop} {al : Nat → Nat} {sh : List Kd} (C : Fx p s m args c cX9_tenThousandTo 4 yX9_tenThousandTo.cls dC dI cA A al) (hr : meth.sig.returnType = some .long) (hlk : meth.locks = false) (hs : ShC sh) {a0 : Int32} {Q : Int64 → St → Prop} {K21 : St → Int64 → Prop} (hK21 : ∀ (σ : St) (x1 : Int64), K21 σ x1 → WW p l e (RM 0) s m args below meth c (MQ below (va_Ql Q (WPost dC dI cA al sh A) A) args s 0 0 A) dC dI cA A 4 0 0 al sh 21 [(1, .long x1)] [] σ) {Rc : St → Int64 → Int32 → Prop} (hRc : ∀ (σ : St) (x1 : Int64) (x3 : Int32), Rc σ x1 x3 → WW p l e (RM 0) s m args below meth c (MQ below (va_Ql Q (WPost dC dI cA al sh A) A) args s 0 0 A) dC dI cA A 4 0 0 al sh 4 [(0, .int a0), (1, .long x1), (3, .int x3)] [] σ) {σ : St} {x1 : Int64} {x3 : Int32} (h : m_X9_tenThousandTo_L4b a0 Q K21 Rc σ x1 x3) : WW p l e (RM 0) s m args below meth c (MQ below (va_Ql Q (WPost dC dI cA al sh A) A) args s 0 0 A) dC dI cA A 4 0 0 al sh 4 [(0, .int a0), (1, .long x1), (3, .int x3)] [] σ := by
  unfold m_X9_tenThousandTo_L4b at h
  refine ww_iload_n C 2 rfl dX9_tenThousandTo_4 ?_
  refine ww_iload_n C 0 rfl dX9_tenThousandTo_5 ?_
  refine ww_icmp_ge (tgt := 21) C dX9_tenThousandTo_6 (by decide) (fun hc => ?_) (fun hc => ?_)
  · have h := h.1 hc
    refine ww_sub [1] rfl ?_
    exact hK21 _ _ h
  · have h := h.2 hc
    refine ww_lload_n C 1 rfl dX9_tenThousandTo_9 ?_
    refine ww_ldc2 (v := 10000) C nq_687 dX9_tenThousandTo_10 ?_
    refine ww_lmul C dX9_tenThousandTo_13 ?_
    refine ww_nmJ h (fun y14 h => ?_)
    refine ww_lstore_n (lv' := [(1, .long y14), (0, .int a0), (3, .int x3)]) C dX9_tenThousandTo_14 rfl (by decide) rfl ?_
    refine ww_iinc (v := (x3 + 1)) (lv' := [(3, .int (x3 + 1)), (1, .long y14), (0, .int a0)]) C 2 rfl dX9_tenThousandTo_15 rfl (by decide) rfl ?_
    refine ww_goto (tgt := 4) C dX9_tenThousandTo_18 (by decide) ?_
    refine ww_sub [2, 1, 0] rfl ?_
    exact hRc _ _ _ h
set_option maxRecDepth 100000 in
set_option maxHeartbeats 4000000 in
theorem w_X9_tenThousandTo_L4 {p : Program} {l : Launch} {e : Env} {s : State} {m : MethodId} {args : Array Value} {below : List Frame} {meth : Method} {c : Code} {dC : Nat → ClassId} {dI : Nat → Nat → Nat} {cA : Nat → ClassId} {A : Nat → Prop} {al : Nat → Nat} {sh : List Kd} (C : Fx p s m args c cX9_tenThousandTo 4 yX9_tenThousandTo.cls dC dI cA A al) (hr : meth.sig.returnType = some .long) (hlk : meth.locks = false) (hs : ShC sh) {a0 : Int32} {Q : Int64 → St → Prop} {K21 : St → Int64 → Prop} (hK21 : ∀ (σ : St) (x1 : Int64), K21 σ x1 → WW p l e (RM 0) s m args below meth c (MQ below (va_Ql Q (WPost dC dI cA al sh A) A) args s 0 0 A) dC dI cA A 4 0 0 al sh 21 [(1, .long x1)] [] σ) : ∀ (f : Nat) (σ : St) (x1 : Int64) (x3 : Int32), m_X9_tenThousandTo_L4 a0 Q K21 f σ x1 x3 → WW p l e (RM 0) s m args below meth c (MQ below (va_Ql Q (WPost dC dI cA al sh A) A) args s 0 0 A) dC dI cA A 4 0 0 al sh 4 [(0, .int a0), (1, .long x1), (3, .int x3)] [] σ := by
  intro f
  induction f with
  | zero => intro σ x1 x3 h; exact False.elim h
  | succ f ih => intro σ x1 x3 h; exact w_X9_tenThousandTo_L4b (Q := Q) (a0 := a0) C hr hlk hs hK21 ih h
set_option maxRecDepth 100000 in
set_option maxHeartbeats 4000000 in
theorem w_X9_tenThousandTo_J21 {p : Program} {l : Launch} {e : Env} {s : State} {m : MethodId} {args : Array Value} {below : List Frame} {meth : Method} {c : Code} {dC : Nat → ClassId} {dI : Nat → Nat → Nat} {cA : Nat → ClassId} {A : Nat → Prop} {al : Nat → Nat} {sh : List Kd} (C : Fx p s m args c cX9_tenThousandTo 4 yX9_tenThousandTo.cls dC dI cA A al) (hr : meth.sig.returnType = some .long) (hlk : meth.locks = false) (hs : ShC sh) {a0 : Int32} {Q : Int64 → St → Prop} {σ : St} {x1 : Int64} (h : m_X9_tenThousandTo_J21 a0 Q σ x1) : WW p l e (RM 0) s m args below meth c (MQ below (va_Ql Q (WPost dC dI cA al sh A) A) args s 0 0 A) dC dI cA A 4 0 0 al sh 21 [(1, .long x1)] [] σ := by
  unfold m_X9_tenThousandTo_J21 at h
  refine ww_lload_n C 0 rfl dX9_tenThousandTo_21 ?_
  exact ww_lret C hr hlk h dX9_tenThousandTo_22
set_option maxRecDepth 100000 in
set_option maxHeartbeats 4000000 in
theorem c_X9_tenThousandTo {l : Launch} {dC : Nat → ClassId} {dI : Nat → Nat → Nat} {cA : Nat → ClassId} {al : Nat → Nat} {sh : List Kd} (hs : ShC sh) {σ : St} {a0 : Int32} {Q : Int64 → St → Prop} (h : m_X9_tenThousandTo σ a0 Q) : ∀ sz, Met l yX9_tenThousandTo (wd yX9_tenThousandTo cX9_tenThousandTo 4 (some .long)) (RM 0) (va_Pc ([.int a0].map (cv al)) (WPre dC dI cA al sh σ sz)) (va_Ql Q (WPost dC dI cA al sh (AW al sh sz)) (AW al sh sz)) 0 0 (AW al sh sz) := by
  refine ww_met (Qc := fun A => va_Ql Q (WPost dC dI cA al sh A) A) (by decide +kernel) (Nat.le_of_ble_eq_true rfl) (fun p e s m args below meth c A C hr hlk => ?_)
  show WW p l e (RM 0) s m args below meth c (MQ below (va_Ql Q (WPost dC dI cA al sh A) A) args s 0 0 A) dC dI cA A 4 0 0 al sh 0 [(0, .int a0)] [] σ
  unfold m_X9_tenThousandTo at h
  refine ww_lconst (v := 1) C dX9_tenThousandTo_0 (by decide) ?_
  refine ww_lstore_n (lv' := [(1, .long 1), (0, .int a0)]) C dX9_tenThousandTo_1 rfl (by decide) rfl ?_
  refine ww_iconst (v := 0) C dX9_tenThousandTo_2 (by decide) ?_
  refine ww_istore_n (lv' := [(3, .int 0), (1, .long 1), (0, .int a0)]) C dX9_tenThousandTo_3 rfl (by decide) rfl ?_
  refine ww_sub [2, 1, 0] rfl ?_
  obtain ⟨f, h⟩ := h
  exact w_X9_tenThousandTo_L4 (Q := Q) (a0 := a0) C hr hlk hs (fun σ x1 h => by exact w_X9_tenThousandTo_J21 (Q := Q) (a0 := a0) C hr hlk hs h) f _ _ _ h
set_option maxRecDepth 100000 in
set_option maxHeartbeats 4000000 in
theorem w_X9_judge_L38b {p : Program} {l : Launch} {e : Env} {s : State} {m : MethodId} {args : Array Value} {below : List Frame} {meth : Method} {c : Code} {dC : Nat → ClassId} {dI : Nat → Nat → Nat} {cA : Nat → ClassId} {A : Nat → Prop} {al : Nat → Nat} {sh : List Kd} (C : Fx p s m args c cX9_judge 6 yX9_judge.cls dC dI cA A al) (hr : meth.sig.returnType = some .int) (hlk : meth.locks = false) (hs : ShC sh) {a1 : Int32} {a2 : Int64} {Q : Int32 → St → Prop} {K88 : St → Int32 → Prop} (hK88 : ∀ (σ : St) (x4 : Int32), K88 σ x4 → WW p l e (RM 8) s m args below meth c (MQ below (va_Qi Q (WPost dC dI cA al sh A) A) args s 0 0 A) dC dI cA A 6 0 0 al sh 88 [(4, .int x4)] [] σ) {K97 : St → Prop} (hK97 : ∀ (σ : St), K97 σ → WW p l e (RM 8) s m args below meth c (MQ below (va_Qi Q (WPost dC dI cA al sh A) A) args s 0 0 A) dC dI cA A 6 0 0 al sh 97 [] [] σ) {Rc : St → Int32 → Prop} (hRc : ∀ (σ : St) (x4 : Int32), Rc σ x4 → WW p l e (RM 8) s m args below meth c (MQ below (va_Qi Q (WPost dC dI cA al sh A) A) args s 0 0 A) dC dI cA A 6 0 0 al sh 38 [(0, .ref 61), (1, .int a1), (2, .long a2), (4, .int x4)] [] σ) {σ : St} {x4 : Int32} (h : m_X9_judge_L38b a1 a2 Q K88 K97 Rc σ x4) : WW p l e (RM 8) s m args below meth c (MQ below (va_Qi Q (WPost dC dI cA al sh A) A) args s 0 0 A) dC dI cA A 6 0 0 al sh 38 [(0, .ref 61), (1, .int a1), (2, .long a2), (4, .int x4)] [] σ := by
  unfold m_X9_judge_L38b at h
  refine ww_iload C 3 rfl dX9_judge_38 ?_
  refine ww_iload_n C 1 rfl dX9_judge_40 ?_
  refine ww_icmp_ge (tgt := 97) C dX9_judge_41 (by decide) (fun hc => ?_) (fun hc => ?_)
  · have h := h.1 hc
    refine ww_sub [] rfl ?_
    exact hK97 _ h
  · have h := h.2 hc
    refine ww_lload_n C 2 rfl dX9_judge_44 ?_
    refine ww_iload_n C 1 rfl dX9_judge_45 ?_
    refine ww_iconst (v := 1) C dX9_judge_46 (by decide) ?_
    refine ww_isub C dX9_judge_47 ?_
    refine ww_iload C 3 rfl dX9_judge_48 ?_
    refine ww_isub C dX9_judge_50 ?_
    refine ww_sl (n := 1) (As := [.int ((a1 - 1) - x4)]) (rest := [.long a2]) C (c_X9_tenThousandTo hs h) nq_688 nq_689 nq_5 nq_690 (by decide +kernel) rfl rfl ⟨Nat.le_of_ble_eq_true rfl, Nat.le_of_ble_eq_true rfl, Nat.le_of_ble_eq_true rfl, Nat.le_of_ble_eq_true rfl⟩ (Nat.le_of_ble_eq_true rfl) dX9_judge_51 (fun r51 σ51 h => ?_)
    refine ww_ldiv C dX9_judge_54 h.1 ?_
    have h := h.2
    refine ww_ldc2 (v := 10000) C nq_687 dX9_judge_55 ?_
    refine ww_lrem C dX9_judge_58 (by decide) ?_
    refine ww_l2i C dX9_judge_59 ?_
    refine ww_nmI h (fun y60 h => ?_)
    refine ww_istore (lv' := [(5, .int y60), (0, .ref 61), (1, .int a1), (2, .long a2), (4, .int x4)]) C dX9_judge_60 (by decide) rfl ?_
    refine ww_aload_n C 1 rfl dX9_judge_62 ?_
    refine ww_iload C 0 rfl dX9_judge_63 ?_
    refine ww_sipush (v := 1000) C dX9_judge_65 (by decide) ?_
    refine ww_idiv C dX9_judge_68 (by decide) ?_
    refine ww_iload C 0 rfl dX9_judge_69 ?_
    refine ww_bipush (v := 10) C dX9_judge_71 (by decide) ?_
    refine ww_idiv C dX9_judge_73 (by decide) ?_
    refine ww_bipush (v := 100) C dX9_judge_74 (by decide) ?_
    refine ww_irem C dX9_judge_76 (by decide) ?_
    refine ww_iload C 0 rfl dX9_judge_77 ?_
    refine ww_bipush (v := 10) C dX9_judge_79 (by decide) ?_
    refine ww_irem C dX9_judge_81 (by decide) ?_
    refine ww_vi (n := 3) (As := [.int (y60 / 1000), .int ((y60 / 10) - (y60 / 10) / 100 * 100), .int (y60 - y60 / 10 * 10)]) (rest := []) C (c_X9_tryThing hs h) (shc_61 hs) rfl nq_691 nq_692 nq_693 nq_5 nq_694 (by decide +kernel) rfl rfl ⟨Nat.le_of_ble_eq_true rfl, Nat.le_of_ble_eq_true rfl, Nat.le_of_ble_eq_true rfl, Nat.le_of_ble_eq_true rfl⟩ (Nat.le_of_ble_eq_true rfl) dX9_judge_82 (fun r82 σ82 h => ?_)
    refine ww_if_ne (tgt := 91) C dX9_judge_85 (by decide) (fun hc => ?_) (fun hc => ?_)
    · have h := h.1 hc
      refine ww_iinc (v := (x4 + 1)) (lv' := [(4, .int (x4 + 1)), (5, .int y60), (0, .ref 61), (1, .int a1), (2, .long a2)]) C 4 rfl dX9_judge_91 rfl (by decide) rfl ?_
      refine ww_goto (tgt := 38) C dX9_judge_94 (by decide) ?_
      refine ww_sub [2, 3, 4, 0] rfl ?_
      exact hRc _ _ h
    · have h := h.2 hc
      refine ww_sub [4] rfl ?_
      exact hK88 _ _ h
set_option maxRecDepth 100000 in
set_option maxHeartbeats 4000000 in
theorem w_X9_judge_L38 {p : Program} {l : Launch} {e : Env} {s : State} {m : MethodId} {args : Array Value} {below : List Frame} {meth : Method} {c : Code} {dC : Nat → ClassId} {dI : Nat → Nat → Nat} {cA : Nat → ClassId} {A : Nat → Prop} {al : Nat → Nat} {sh : List Kd} (C : Fx p s m args c cX9_judge 6 yX9_judge.cls dC dI cA A al) (hr : meth.sig.returnType = some .int) (hlk : meth.locks = false) (hs : ShC sh) {a1 : Int32} {a2 : Int64} {Q : Int32 → St → Prop} {K88 : St → Int32 → Prop} (hK88 : ∀ (σ : St) (x4 : Int32), K88 σ x4 → WW p l e (RM 8) s m args below meth c (MQ below (va_Qi Q (WPost dC dI cA al sh A) A) args s 0 0 A) dC dI cA A 6 0 0 al sh 88 [(4, .int x4)] [] σ) {K97 : St → Prop} (hK97 : ∀ (σ : St), K97 σ → WW p l e (RM 8) s m args below meth c (MQ below (va_Qi Q (WPost dC dI cA al sh A) A) args s 0 0 A) dC dI cA A 6 0 0 al sh 97 [] [] σ) : ∀ (f : Nat) (σ : St) (x4 : Int32), m_X9_judge_L38 a1 a2 Q K88 K97 f σ x4 → WW p l e (RM 8) s m args below meth c (MQ below (va_Qi Q (WPost dC dI cA al sh A) A) args s 0 0 A) dC dI cA A 6 0 0 al sh 38 [(0, .ref 61), (1, .int a1), (2, .long a2), (4, .int x4)] [] σ := by
  intro f
  induction f with
  | zero => intro σ x4 h; exact False.elim h
  | succ f ih => intro σ x4 h; exact w_X9_judge_L38b (Q := Q) (a1 := a1) (a2 := a2) C hr hlk hs hK88 hK97 ih h
set_option maxRecDepth 100000 in
set_option maxHeartbeats 4000000 in
theorem w_X9_judge_J88 {p : Program} {l : Launch} {e : Env} {s : State} {m : MethodId} {args : Array Value} {below : List Frame} {meth : Method} {c : Code} {dC : Nat → ClassId} {dI : Nat → Nat → Nat} {cA : Nat → ClassId} {A : Nat → Prop} {al : Nat → Nat} {sh : List Kd} (C : Fx p s m args c cX9_judge 6 yX9_judge.cls dC dI cA A al) (hr : meth.sig.returnType = some .int) (hlk : meth.locks = false) (hs : ShC sh) {a1 : Int32} {a2 : Int64} {Q : Int32 → St → Prop} {σ : St} {x4 : Int32} (h : m_X9_judge_J88 a1 a2 Q σ x4) : WW p l e (RM 8) s m args below meth c (MQ below (va_Qi Q (WPost dC dI cA al sh A) A) args s 0 0 A) dC dI cA A 6 0 0 al sh 88 [(4, .int x4)] [] σ := by
  unfold m_X9_judge_J88 at h
  refine ww_iload C 0 rfl dX9_judge_88 ?_
  exact ww_iret C hr hlk h dX9_judge_90
set_option maxRecDepth 100000 in
set_option maxHeartbeats 4000000 in
theorem w_X9_judge_J97 {p : Program} {l : Launch} {e : Env} {s : State} {m : MethodId} {args : Array Value} {below : List Frame} {meth : Method} {c : Code} {dC : Nat → ClassId} {dI : Nat → Nat → Nat} {cA : Nat → ClassId} {A : Nat → Prop} {al : Nat → Nat} {sh : List Kd} (C : Fx p s m args c cX9_judge 6 yX9_judge.cls dC dI cA A al) (hr : meth.sig.returnType = some .int) (hlk : meth.locks = false) (hs : ShC sh) {a1 : Int32} {a2 : Int64} {Q : Int32 → St → Prop} {σ : St} (h : m_X9_judge_J97 a1 a2 Q σ) : WW p l e (RM 8) s m args below meth c (MQ below (va_Qi Q (WPost dC dI cA al sh A) A) args s 0 0 A) dC dI cA A 6 0 0 al sh 97 [] [] σ := by
  unfold m_X9_judge_J97 at h
  refine ww_bipush (v := -9) C dX9_judge_97 (by decide) ?_
  exact ww_iret C hr hlk h dX9_judge_99
set_option maxRecDepth 100000 in
set_option maxHeartbeats 4000000 in
theorem c_X9_judge {l : Launch} {dC : Nat → ClassId} {dI : Nat → Nat → Nat} {cA : Nat → ClassId} {al : Nat → Nat} {sh : List Kd} (hs : ShC sh) {σ : St} {a1 : Int32} {a2 : Int64} {Q : Int32 → St → Prop} (h : m_X9_judge σ a1 a2 Q) : ∀ sz, Met l yX9_judge (wd yX9_judge cX9_judge 6 (some .int)) (RM 8) (va_Pc ([.ref 61, .int a1, .long a2].map (cv al)) (WPre dC dI cA al sh σ sz)) (va_Qi Q (WPost dC dI cA al sh (AW al sh sz)) (AW al sh sz)) 0 0 (AW al sh sz) := by
  refine ww_met (Qc := fun A => va_Qi Q (WPost dC dI cA al sh A) A) (by decide +kernel) (Nat.le_of_ble_eq_true rfl) (fun p e s m args below meth c A C hr hlk => ?_)
  show WW p l e (RM 8) s m args below meth c (MQ below (va_Qi Q (WPost dC dI cA al sh A) A) args s 0 0 A) dC dI cA A 6 0 0 al sh 0 [(0, .ref 61), (1, .int a1), (2, .long a2)] [] σ
  unfold m_X9_judge at h
  refine ww_iload_n C 1 rfl dX9_judge_0 ?_
  refine ww_i2l C dX9_judge_1 ?_
  refine ww_lconst (v := 1) C dX9_judge_2 (by decide) ?_
  refine ww_ldc2 (v := 4) C nq_476 dX9_judge_3 ?_
  refine ww_si (n := 3) (As := [.long (a1.toInt64), .long 1, .long 4]) (rest := []) C (c_X9_in hs h) nq_159 nq_160 nq_5 nq_161 (by decide +kernel) rfl rfl ⟨Nat.le_of_ble_eq_true rfl, Nat.le_of_ble_eq_true rfl, Nat.le_of_ble_eq_true rfl, Nat.le_of_ble_eq_true rfl⟩ (Nat.le_of_ble_eq_true rfl) dX9_judge_6 (fun r6 σ6 h => ?_)
  refine ww_if_eq (tgt := 26) C dX9_judge_9 (by decide) (fun hc => ?_) (fun hc => ?_)
  · have h := h.1 hc
    refine ww_bipush (v := -2) C dX9_judge_26 (by decide) ?_
    exact ww_iret C hr hlk h dX9_judge_28
  · have h := h.2 hc
    refine ww_lload_n C 2 rfl dX9_judge_12 ?_
    refine ww_lconst (v := 0) C dX9_judge_13 (by decide) ?_
    refine ww_iload_n C 1 rfl dX9_judge_14 ?_
    refine ww_sl (n := 1) (As := [.int a1]) (rest := [.long 0, .long a2]) C (c_X9_tenThousandTo hs h) nq_688 nq_689 nq_5 nq_690 (by decide +kernel) rfl rfl ⟨Nat.le_of_ble_eq_true rfl, Nat.le_of_ble_eq_true rfl, Nat.le_of_ble_eq_true rfl, Nat.le_of_ble_eq_true rfl⟩ (Nat.le_of_ble_eq_true rfl) dX9_judge_15 (fun r15 σ15 h => ?_)
    refine ww_lconst (v := 1) C dX9_judge_18 (by decide) ?_
    refine ww_lsub C dX9_judge_19 ?_
    refine ww_si (n := 3) (As := [.long a2, .long 0, .long (r15 - 1)]) (rest := []) C (c_X9_in hs h) nq_159 nq_160 nq_5 nq_161 (by decide +kernel) rfl rfl ⟨Nat.le_of_ble_eq_true rfl, Nat.le_of_ble_eq_true rfl, Nat.le_of_ble_eq_true rfl, Nat.le_of_ble_eq_true rfl⟩ (Nat.le_of_ble_eq_true rfl) dX9_judge_20 (fun r20 σ20 h => ?_)
    refine ww_if_ne (tgt := 29) C dX9_judge_23 (by decide) (fun hc => ?_) (fun hc => ?_)
    · have h := h.1 hc
      refine ww_aload_n C 0 rfl dX9_judge_29 ?_
      refine ww_iconst (v := 1) C dX9_judge_30 (by decide) ?_
      refine ww_iconst (v := 0) C dX9_judge_31 (by decide) ?_
      refine ww_vv (n := 2) (As := [.int 1, .int 0]) (rest := []) C (c_X9_lay hs h) (shc_61 hs) rfl nq_368 nq_369 nq_370 nq_5 nq_371 (by decide +kernel) rfl rfl ⟨Nat.le_of_ble_eq_true rfl, Nat.le_of_ble_eq_true rfl, Nat.le_of_ble_eq_true rfl, Nat.le_of_ble_eq_true rfl⟩ (Nat.le_of_ble_eq_true rfl) dX9_judge_32 (fun σ32 h => ?_)
      refine ww_iconst (v := 0) C dX9_judge_35 (by decide) ?_
      refine ww_istore (lv' := [(4, .int 0), (0, .ref 61), (1, .int a1), (2, .long a2)]) C dX9_judge_36 (by decide) rfl ?_
      refine ww_sub [1, 2, 3, 0] rfl ?_
      obtain ⟨f, h⟩ := h
      exact w_X9_judge_L38 (Q := Q) (a1 := a1) (a2 := a2) C hr hlk hs (fun σ x4 h => by exact w_X9_judge_J88 (Q := Q) (a1 := a1) (a2 := a2) C hr hlk hs h) (fun σ h => by exact w_X9_judge_J97 (Q := Q) (a1 := a1) (a2 := a2) C hr hlk hs h) f _ _ h
    · have h := h.2 hc
      refine ww_bipush (v := -2) C dX9_judge_26 (by decide) ?_
      exact ww_iret C hr hlk h dX9_judge_28
