set_option maxRecDepth 100000 in
set_option maxHeartbeats 4000000 in
theorem c_X9_isStep {l : Launch} {dC : Nat → ClassId} {dI : Nat → Nat → Nat} {cA : Nat → ClassId} {al : Nat → Nat} {sh : List Kd} (hs : ShC sh) {σ : St} {a1 : Int32} {a2 : Int32} {Q : Int32 → St → Prop} (h : m_X9_isStep σ a1 a2 Q) : ∀ sz, Met l yX9_isStep (wd yX9_isStep cX9_isStep 3 (some .boolean)) (RM 1) (va_Pc ([.ref 61, .int a1, .int a2].map (cv al)) (WPre dC dI cA al sh σ sz)) (va_Qi Q (WPost dC dI cA al sh (AW al sh sz)) (AW al sh sz)) 0 0 (AW al sh sz) := by
  refine ww_met (Qc := fun A => va_Qi Q (WPost dC dI cA al sh A) A) (by decide +kernel) (Nat.le_of_ble_eq_true rfl) (fun p e s m args below meth c A C hr hlk => ?_)
  show WW p l e (RM 1) s m args below meth c (MQ below (va_Qi Q (WPost dC dI cA al sh A) A) args s 0 0 A) dC dI cA A 3 0 0 al sh 0 [(0, .ref 61), (1, .int a1), (2, .int a2)] [] σ
  unfold m_X9_isStep at h
  refine ww_iload_n C 2 rfl dX9_isStep_0 ?_
  refine ww_i2l C dX9_isStep_1 ?_
  refine ww_lconst (v := 0) C dX9_isStep_2 (by decide) ?_
  refine ww_aload_n C 0 rfl dX9_isStep_3 ?_
  refine ww_iload_n C 1 rfl dX9_isStep_4 ?_
  refine ww_vi (n := 1) (As := [.int a1]) (rest := [.long 0, .long (a2.toInt64)]) C (c_X9_many hs h) (shc_61 hs) rfl nq_291 nq_292 nq_293 nq_5 nq_294 (by decide +kernel) rfl rfl ⟨Nat.le_of_ble_eq_true rfl, Nat.le_of_ble_eq_true rfl, Nat.le_of_ble_eq_true rfl, Nat.le_of_ble_eq_true rfl⟩ (Nat.le_of_ble_eq_true rfl) dX9_isStep_5 (fun r5 σ5 h => ?_)
  refine ww_iconst (v := 1) C dX9_isStep_8 (by decide) ?_
  refine ww_isub C dX9_isStep_9 ?_
  refine ww_i2l C dX9_isStep_10 ?_
  refine ww_si (n := 3) (As := [.long (a2.toInt64), .long 0, .long ((r5 - 1).toInt64)]) (rest := []) C (c_X9_in hs h) nq_159 nq_160 nq_5 nq_161 (by decide +kernel) rfl rfl ⟨Nat.le_of_ble_eq_true rfl, Nat.le_of_ble_eq_true rfl, Nat.le_of_ble_eq_true rfl, Nat.le_of_ble_eq_true rfl⟩ (Nat.le_of_ble_eq_true rfl) dX9_isStep_11 (fun r11 σ11 h => ?_)
  exact ww_zret C hr hlk h.1 h.2 dX9_isStep_14
set_option maxRecDepth 100000 in
set_option maxHeartbeats 4000000 in
theorem c_X9_letterOf {l : Launch} {dC : Nat → ClassId} {dI : Nat → Nat → Nat} {cA : Nat → ClassId} {al : Nat → Nat} {sh : List Kd} (hs : ShC sh) {σ : St} {a0 : Int32} {Q : Int32 → St → Prop} (h : m_X9_letterOf σ a0 Q) : ∀ sz, Met l yX9_letterOf (wd yX9_letterOf cX9_letterOf 1 (some .int)) (RM 0) (va_Pc ([.int a0].map (cv al)) (WPre dC dI cA al sh σ sz)) (va_Qi Q (WPost dC dI cA al sh (AW al sh sz)) (AW al sh sz)) 0 0 (AW al sh sz) := by
  refine ww_met (Qc := fun A => va_Qi Q (WPost dC dI cA al sh A) A) (by decide +kernel) (Nat.le_of_ble_eq_true rfl) (fun p e s m args below meth c A C hr hlk => ?_)
  show WW p l e (RM 0) s m args below meth c (MQ below (va_Qi Q (WPost dC dI cA al sh A) A) args s 0 0 A) dC dI cA A 1 0 0 al sh 0 [(0, .int a0)] [] σ
  unfold m_X9_letterOf at h
  refine ww_iload_n C 0 rfl dX9_letterOf_0 ?_
  by_cases hc0 : a0 = 0
  · refine ww_table (off := 39) (tgt := 40) C dX9_letterOf_1 (by rw [hc0]; decide) (by rw [hc0]; decide) (by rw [hc0]; rfl) (by decide) ?_
    have h := h.1 hc0
    refine ww_bipush (v := 108) C dX9_letterOf_40 (by decide) ?_
    exact ww_iret C hr hlk h dX9_letterOf_42
  · skip
    by_cases hc1 : a0 = 1
    · refine ww_table (off := 42) (tgt := 43) C dX9_letterOf_1 (by rw [hc1]; decide) (by rw [hc1]; decide) (by rw [hc1]; rfl) (by decide) ?_
      have h := h.2.1 hc1
      refine ww_bipush (v := 115) C dX9_letterOf_43 (by decide) ?_
      exact ww_iret C hr hlk h dX9_letterOf_45
    · skip
      by_cases hc2 : a0 = 2
      · refine ww_table (off := 45) (tgt := 46) C dX9_letterOf_1 (by rw [hc2]; decide) (by rw [hc2]; decide) (by rw [hc2]; rfl) (by decide) ?_
        have h := h.2.2.1 hc2
        refine ww_bipush (v := 117) C dX9_letterOf_46 (by decide) ?_
        exact ww_iret C hr hlk h dX9_letterOf_48
      · skip
        by_cases hc3 : a0 = 3
        · refine ww_table (off := 48) (tgt := 49) C dX9_letterOf_1 (by rw [hc3]; decide) (by rw [hc3]; decide) (by rw [hc3]; rfl) (by decide) ?_
          have h := h.2.2.2.1 hc3
          refine ww_bipush (v := 114) C dX9_letterOf_49 (by decide) ?_
          exact ww_iret C hr hlk h dX9_letterOf_51
        · skip
          by_cases hc4 : a0 = 4
          · refine ww_table (off := 51) (tgt := 52) C dX9_letterOf_1 (by rw [hc4]; decide) (by rw [hc4]; decide) (by rw [hc4]; rfl) (by decide) ?_
            have h := h.2.2.2.2.1 hc4
            refine ww_bipush (v := 119) C dX9_letterOf_52 (by decide) ?_
            exact ww_iret C hr hlk h dX9_letterOf_54
          · skip
            by_cases hc5 : a0 = 5
            · refine ww_table (off := 54) (tgt := 55) C dX9_letterOf_1 (by rw [hc5]; decide) (by rw [hc5]; decide) (by rw [hc5]; rfl) (by decide) ?_
              have h := h.2.2.2.2.2.1 hc5
              refine ww_bipush (v := 102) C dX9_letterOf_55 (by decide) ?_
              exact ww_iret C hr hlk h dX9_letterOf_57
            · skip
              have nhc0 := ne_toInt (n := 0) hc0
              have nhc1 := ne_toInt (n := 1) hc1
              have nhc2 := ne_toInt (n := 2) hc2
              have nhc3 := ne_toInt (n := 3) hc3
              have nhc4 := ne_toInt (n := 4) hc4
              have nhc5 := ne_toInt (n := 5) hc5
              refine ww_tableO (tgt := 58) C dX9_letterOf_1 (by omega) (by decide) ?_
              have h := h.2.2.2.2.2.2 ⟨hc0, hc1, hc2, hc3, hc4, hc5⟩
              refine ww_bipush (v := 106) C dX9_letterOf_58 (by decide) ?_
              exact ww_iret C hr hlk h dX9_letterOf_60
set_option maxRecDepth 100000 in
set_option maxHeartbeats 4000000 in
theorem c_X9_step {l : Launch} {dC : Nat → ClassId} {dI : Nat → Nat → Nat} {cA : Nat → ClassId} {al : Nat → Nat} {sh : List Kd} (hs : ShC sh) {σ : St} {a1 : Int32} {a2 : Int32} {Q : Int32 → St → Prop} (h : m_X9_step σ a1 a2 Q) : ∀ sz, Met l yX9_step (wd yX9_step cX9_step 3 (some .int)) (RM 2) (va_Pc ([.ref 61, .int a1, .int a2].map (cv al)) (WPre dC dI cA al sh σ sz)) (va_Qi Q (WPost dC dI cA al sh (AW al sh sz)) (AW al sh sz)) 0 0 (AW al sh sz) := by
  refine ww_met (Qc := fun A => va_Qi Q (WPost dC dI cA al sh A) A) (by decide +kernel) (Nat.le_of_ble_eq_true rfl) (fun p e s m args below meth c A C hr hlk => ?_)
  show WW p l e (RM 2) s m args below meth c (MQ below (va_Qi Q (WPost dC dI cA al sh A) A) args s 0 0 A) dC dI cA A 3 0 0 al sh 0 [(0, .ref 61), (1, .int a1), (2, .int a2)] [] σ
  unfold m_X9_step at h
  refine ww_aload_n C 0 rfl dX9_step_0 ?_
  refine ww_iconst (v := 0) C dX9_step_1 (by decide) ?_
  refine ww_iload_n C 1 rfl dX9_step_2 ?_
  refine ww_vi (n := 2) (As := [.int 0, .int a1]) (rest := []) C (c_X9_isStep hs h) (shc_61 hs) rfl nq_319 nq_320 nq_321 nq_5 nq_322 (by decide +kernel) rfl rfl ⟨Nat.le_of_ble_eq_true rfl, Nat.le_of_ble_eq_true rfl, Nat.le_of_ble_eq_true rfl, Nat.le_of_ble_eq_true rfl⟩ (Nat.le_of_ble_eq_true rfl) dX9_step_3 (fun r3 σ3 h => ?_)
  refine ww_if_ne (tgt := 11) C dX9_step_6 (by decide) (fun hc => ?_) (fun hc => ?_)
  · have h := h.1 hc
    refine ww_aload_n C 0 rfl dX9_step_11 ?_
    refine ww_iconst (v := 0) C dX9_step_12 (by decide) ?_
    refine ww_vv (n := 1) (As := [.int 0]) (rest := []) C (c_X9_findHeld hs h) (shc_61 hs) rfl nq_323 nq_324 nq_325 nq_5 nq_326 (by decide +kernel) rfl rfl ⟨Nat.le_of_ble_eq_true rfl, Nat.le_of_ble_eq_true rfl, Nat.le_of_ble_eq_true rfl, Nat.le_of_ble_eq_true rfl⟩ (Nat.le_of_ble_eq_true rfl) dX9_step_13 (fun σ13 h => ?_)
    refine ww_iload_n C 2 rfl dX9_step_16 ?_
    by_cases hc0 : a2 = 0
    · refine ww_table (off := 35) (tgt := 52) C dX9_step_17 (by rw [hc0]; decide) (by rw [hc0]; decide) (by rw [hc0]; rfl) (by decide) ?_
      have h := h.1 hc0
      refine ww_aload_n C 0 rfl dX9_step_52 ?_
      refine ww_iconst (v := 0) C dX9_step_53 (by decide) ?_
      refine ww_iload_n C 1 rfl dX9_step_54 ?_
      refine ww_vi (n := 2) (As := [.int 0, .int a1]) (rest := []) C (c_X9_threadAt hs h) (shc_61 hs) rfl nq_327 nq_328 nq_329 nq_5 nq_330 (by decide +kernel) rfl rfl ⟨Nat.le_of_ble_eq_true rfl, Nat.le_of_ble_eq_true rfl, Nat.le_of_ble_eq_true rfl, Nat.le_of_ble_eq_true rfl⟩ (Nat.le_of_ble_eq_true rfl) dX9_step_55 (fun r55 σ55 h => ?_)
      exact ww_iret C hr hlk h dX9_step_58
    · skip
      by_cases hc1 : a2 = 1
      · refine ww_table (off := 42) (tgt := 59) C dX9_step_17 (by rw [hc1]; decide) (by rw [hc1]; decide) (by rw [hc1]; rfl) (by decide) ?_
        have h := h.2.1 hc1
        refine ww_aload_n C 0 rfl dX9_step_59 ?_
        refine ww_iconst (v := 0) C dX9_step_60 (by decide) ?_
        refine ww_iload_n C 1 rfl dX9_step_61 ?_
        refine ww_vi (n := 2) (As := [.int 0, .int a1]) (rest := []) C (c_X9_signAt hs h) (shc_61 hs) rfl nq_331 nq_332 nq_333 nq_5 nq_334 (by decide +kernel) rfl rfl ⟨Nat.le_of_ble_eq_true rfl, Nat.le_of_ble_eq_true rfl, Nat.le_of_ble_eq_true rfl, Nat.le_of_ble_eq_true rfl⟩ (Nat.le_of_ble_eq_true rfl) dX9_step_62 (fun r62 σ62 h => ?_)
        refine ww_si (n := 1) (As := [.int r62]) (rest := []) C (c_X9_letterOf hs h) nq_339 nq_340 nq_5 nq_341 (by decide +kernel) rfl rfl ⟨Nat.le_of_ble_eq_true rfl, Nat.le_of_ble_eq_true rfl, Nat.le_of_ble_eq_true rfl, Nat.le_of_ble_eq_true rfl⟩ (Nat.le_of_ble_eq_true rfl) dX9_step_65 (fun r65 σ65 h => ?_)
        exact ww_iret C hr hlk h dX9_step_68
      · skip
        by_cases hc2 : a2 = 2
        · refine ww_table (off := 52) (tgt := 69) C dX9_step_17 (by rw [hc2]; decide) (by rw [hc2]; decide) (by rw [hc2]; rfl) (by decide) ?_
          have h := h.2.2.1 hc2
          refine ww_aload_n C 0 rfl dX9_step_69 ?_
          refine ww_iconst (v := 0) C dX9_step_70 (by decide) ?_
          refine ww_iload_n C 1 rfl dX9_step_71 ?_
          refine ww_vi (n := 2) (As := [.int 0, .int a1]) (rest := []) C (c_X9_aboutAt hs h) (shc_61 hs) rfl nq_335 nq_336 nq_337 nq_5 nq_338 (by decide +kernel) rfl rfl ⟨Nat.le_of_ble_eq_true rfl, Nat.le_of_ble_eq_true rfl, Nat.le_of_ble_eq_true rfl, Nat.le_of_ble_eq_true rfl⟩ (Nat.le_of_ble_eq_true rfl) dX9_step_72 (fun r72 σ72 h => ?_)
          exact ww_iret C hr hlk h dX9_step_75
        · skip
          by_cases hc3 : a2 = 3
          · refine ww_table (off := 59) (tgt := 76) C dX9_step_17 (by rw [hc3]; decide) (by rw [hc3]; decide) (by rw [hc3]; rfl) (by decide) ?_
            have h := h.2.2.2.1 hc3
            refine ww_aload_n C 0 rfl dX9_step_76 ?_
            refine ww_getR C (shc_61 hs) rfl inG9 8 (by decide) nq_126 rfl dX9_step_77 ?_
            refine ww_iload_n C 1 rfl dX9_step_80 ?_
            refine ww_iald C (shc_67 hs) h.1 dX9_step_81 ?_
            have h := h.2
            exact ww_iret C hr hlk h dX9_step_82
          · skip
            by_cases hc4 : a2 = 4
            · refine ww_table (off := 66) (tgt := 83) C dX9_step_17 (by rw [hc4]; decide) (by rw [hc4]; decide) (by rw [hc4]; rfl) (by decide) ?_
              have h := h.2.2.2.2.1 hc4
              refine ww_aload_n C 0 rfl dX9_step_83 ?_
              refine ww_getR C (shc_61 hs) rfl inG9 9 (by decide) nq_127 rfl dX9_step_84 ?_
              refine ww_iload_n C 1 rfl dX9_step_87 ?_
              refine ww_iald C (shc_68 hs) h.1 dX9_step_88 ?_
              have h := h.2
              exact ww_iret C hr hlk h dX9_step_89
            · skip
              have nhc0 := ne_toInt (n := 0) hc0
              have nhc1 := ne_toInt (n := 1) hc1
              have nhc2 := ne_toInt (n := 2) hc2
              have nhc3 := ne_toInt (n := 3) hc3
              have nhc4 := ne_toInt (n := 4) hc4
              refine ww_tableO (tgt := 90) C dX9_step_17 (by omega) (by decide) ?_
              have h := h.2.2.2.2.2 ⟨hc0, hc1, hc2, hc3, hc4⟩
              refine ww_bipush (v := -2) C dX9_step_90 (by decide) ?_
              exact ww_iret C hr hlk h dX9_step_92
  · have h := h.2 hc
    refine ww_iconst (v := -1) C dX9_step_9 (by decide) ?_
    exact ww_iret C hr hlk h dX9_step_10
set_option maxRecDepth 100000 in
set_option maxHeartbeats 4000000 in
theorem w_X9_keepAct_L2b {p : Program} {l : Launch} {e : Env} {s : State} {m : MethodId} {args : Array Value} {below : List Frame} {meth : Method} {c : Code} {dC : Nat → ClassId} {dI : Nat → Nat → Nat} {cA : Nat → ClassId} {A : Nat → Prop} {al : Nat → Nat} {sh : List Kd} (C : Fx p s m args c cX9_keepAct 2 yX9_keepAct.cls dC dI cA A al) (hr : meth.sig.returnType = none) (hlk : meth.locks = false) (hs : ShC sh) {Q : St → Prop} {K34 : St → Prop} (hK34 : ∀ (σ : St), K34 σ → WW p l e (RM 0) s m args below meth c (MQ below (va_Qv Q (WPost dC dI cA al sh A) A) args s 0 0 A) dC dI cA A 2 0 0 al sh 34 [(0, .ref 61)] [] σ) {Rc : St → Int32 → Prop} (hRc : ∀ (σ : St) (x1 : Int32), Rc σ x1 → WW p l e (RM 0) s m args below meth c (MQ below (va_Qv Q (WPost dC dI cA al sh A) A) args s 0 0 A) dC dI cA A 2 0 0 al sh 2 [(0, .ref 61), (1, .int x1)] [] σ) {σ : St} {x1 : Int32} (h : m_X9_keepAct_L2b Q K34 Rc σ x1) : WW p l e (RM 0) s m args below meth c (MQ below (va_Qv Q (WPost dC dI cA al sh A) A) args s 0 0 A) dC dI cA A 2 0 0 al sh 2 [(0, .ref 61), (1, .int x1)] [] σ := by
  unfold m_X9_keepAct_L2b at h
  refine ww_iload_n C 1 rfl dX9_keepAct_2 ?_
  refine ww_bipush (v := 21) C dX9_keepAct_3 (by decide) ?_
  refine ww_icmp_ge (tgt := 34) C dX9_keepAct_5 (by decide) (fun hc => ?_) (fun hc => ?_)
  · have h := h.1 hc
    refine ww_sub [0] rfl ?_
    exact hK34 _ h
  · have h := h.2 hc
    refine ww_aload_n C 0 rfl dX9_keepAct_8 ?_
    refine ww_getR C (shc_61 hs) rfl inG9 12 (by decide) nq_128 rfl dX9_keepAct_9 ?_
    refine ww_bipush (v := 21) C dX9_keepAct_12 (by decide) ?_
    refine ww_aload_n C 0 rfl dX9_keepAct_14 ?_
    refine ww_getI C (shc_61 hs) rfl inG9 11 (by decide) nq_388 rfl dX9_keepAct_15 ?_
    refine ww_imul C dX9_keepAct_18 ?_
    refine ww_iload_n C 1 rfl dX9_keepAct_19 ?_
    refine ww_iadd C dX9_keepAct_20 ?_
    refine ww_aload_n C 0 rfl dX9_keepAct_21 ?_
    refine ww_getR C (shc_61 hs) rfl inG9 4 (by decide) nq_123 rfl dX9_keepAct_22 ?_
    refine ww_iload_n C 1 rfl dX9_keepAct_25 ?_
    refine ww_iald C (shc_64 hs) h.1 dX9_keepAct_26 ?_
    have h := h.2
    refine ww_iast C (shc_69 hs) h.1 dX9_keepAct_27 h.2 (fun σ27 h => ?_)
    refine ww_iinc (v := (x1 + 1)) (lv' := [(1, .int (x1 + 1)), (0, .ref 61)]) C 1 rfl dX9_keepAct_28 rfl (by decide) rfl ?_
    refine ww_goto (tgt := 2) C dX9_keepAct_31 (by decide) ?_
    refine ww_sub [1, 0] rfl ?_
    exact hRc _ _ h
set_option maxRecDepth 100000 in
set_option maxHeartbeats 4000000 in
theorem w_X9_keepAct_L2 {p : Program} {l : Launch} {e : Env} {s : State} {m : MethodId} {args : Array Value} {below : List Frame} {meth : Method} {c : Code} {dC : Nat → ClassId} {dI : Nat → Nat → Nat} {cA : Nat → ClassId} {A : Nat → Prop} {al : Nat → Nat} {sh : List Kd} (C : Fx p s m args c cX9_keepAct 2 yX9_keepAct.cls dC dI cA A al) (hr : meth.sig.returnType = none) (hlk : meth.locks = false) (hs : ShC sh) {Q : St → Prop} {K34 : St → Prop} (hK34 : ∀ (σ : St), K34 σ → WW p l e (RM 0) s m args below meth c (MQ below (va_Qv Q (WPost dC dI cA al sh A) A) args s 0 0 A) dC dI cA A 2 0 0 al sh 34 [(0, .ref 61)] [] σ) : ∀ (f : Nat) (σ : St) (x1 : Int32), m_X9_keepAct_L2 Q K34 f σ x1 → WW p l e (RM 0) s m args below meth c (MQ below (va_Qv Q (WPost dC dI cA al sh A) A) args s 0 0 A) dC dI cA A 2 0 0 al sh 2 [(0, .ref 61), (1, .int x1)] [] σ := by
  intro f
  induction f with
  | zero => intro σ x1 h; exact False.elim h
  | succ f ih => intro σ x1 h; exact w_X9_keepAct_L2b (Q := Q) C hr hlk hs hK34 ih h
set_option maxRecDepth 100000 in
set_option maxHeartbeats 4000000 in
theorem w_X9_keepAct_J34 {p : Program} {l : Launch} {e : Env} {s : State} {m : MethodId} {args : Array Value} {below : List Frame} {meth : Method} {c : Code} {dC : Nat → ClassId} {dI : Nat → Nat → Nat} {cA : Nat → ClassId} {A : Nat → Prop} {al : Nat → Nat} {sh : List Kd} (C : Fx p s m args c cX9_keepAct 2 yX9_keepAct.cls dC dI cA A al) (hr : meth.sig.returnType = none) (hlk : meth.locks = false) (hs : ShC sh) {Q : St → Prop} {σ : St} (h : m_X9_keepAct_J34 Q σ) : WW p l e (RM 0) s m args below meth c (MQ below (va_Qv Q (WPost dC dI cA al sh A) A) args s 0 0 A) dC dI cA A 2 0 0 al sh 34 [(0, .ref 61)] [] σ := by
  unfold m_X9_keepAct_J34 at h
  refine ww_aload_n C 0 rfl dX9_keepAct_34 ?_
  refine ww_aload_n C 0 rfl dX9_keepAct_35 ?_
  refine ww_getI C (shc_61 hs) rfl inG9 11 (by decide) nq_388 rfl dX9_keepAct_36 ?_
  refine ww_iconst (v := 1) C dX9_keepAct_39 (by decide) ?_
  refine ww_iadd C dX9_keepAct_40 ?_
  refine ww_bipush (v := 14) C dX9_keepAct_41 (by decide) ?_
  refine ww_irem C dX9_keepAct_43 (by decide) ?_
  refine ww_putI C (shc_61 hs) rfl inG9 11 (by decide) nq_388 tyX9 tyX9_ok nmX9 rfl (by decide +kernel) rfl dX9_keepAct_44 h (fun σ44 h => ?_)
  refine ww_aload_n C 0 rfl dX9_keepAct_47 ?_
  refine ww_aload_n C 0 rfl dX9_keepAct_48 ?_
  refine ww_getI C (shc_61 hs) rfl inG9 10 (by decide) nq_290 rfl dX9_keepAct_49 ?_
  refine ww_bipush (v := 14) C dX9_keepAct_52 (by decide) ?_
  refine ww_icmp_ge (tgt := 66) C dX9_keepAct_54 (by decide) (fun hc => ?_) (fun hc => ?_)
  · have h := h.1 hc
    refine ww_bipush (v := 14) C dX9_keepAct_66 (by decide) ?_
    refine ww_putI C (shc_61 hs) rfl inG9 10 (by decide) nq_290 tyX9 tyX9_ok nmX9 rfl (by decide +kernel) rfl dX9_keepAct_68 h (fun σ68 h => ?_)
    exact ww_vret C hr hlk h dX9_keepAct_71
  · have h := h.2 hc
    refine ww_aload_n C 0 rfl dX9_keepAct_57 ?_
    refine ww_getI C (shc_61 hs) rfl inG9 10 (by decide) nq_290 rfl dX9_keepAct_58 ?_
    refine ww_iconst (v := 1) C dX9_keepAct_61 (by decide) ?_
    refine ww_iadd C dX9_keepAct_62 ?_
    refine ww_goto (tgt := 68) C dX9_keepAct_63 (by decide) ?_
    refine ww_putI C (shc_61 hs) rfl inG9 10 (by decide) nq_290 tyX9 tyX9_ok nmX9 rfl (by decide +kernel) rfl dX9_keepAct_68 h (fun σ68 h => ?_)
    exact ww_vret C hr hlk h dX9_keepAct_71
set_option maxRecDepth 100000 in
set_option maxHeartbeats 4000000 in
theorem c_X9_keepAct {l : Launch} {dC : Nat → ClassId} {dI : Nat → Nat → Nat} {cA : Nat → ClassId} {al : Nat → Nat} {sh : List Kd} (hs : ShC sh) {σ : St} {Q : St → Prop} (h : m_X9_keepAct σ Q) : ∀ sz, Met l yX9_keepAct (wd yX9_keepAct cX9_keepAct 2 none) (RM 0) (va_Pc ([.ref 61].map (cv al)) (WPre dC dI cA al sh σ sz)) (va_Qv Q (WPost dC dI cA al sh (AW al sh sz)) (AW al sh sz)) 0 0 (AW al sh sz) := by
  refine ww_met (Qc := fun A => va_Qv Q (WPost dC dI cA al sh A) A) (by decide +kernel) (Nat.le_of_ble_eq_true rfl) (fun p e s m args below meth c A C hr hlk => ?_)
  show WW p l e (RM 0) s m args below meth c (MQ below (va_Qv Q (WPost dC dI cA al sh A) A) args s 0 0 A) dC dI cA A 2 0 0 al sh 0 [(0, .ref 61)] [] σ
  unfold m_X9_keepAct at h
  refine ww_iconst (v := 0) C dX9_keepAct_0 (by decide) ?_
  refine ww_istore_n (lv' := [(1, .int 0), (0, .ref 61)]) C dX9_keepAct_1 rfl (by decide) rfl ?_
  refine ww_sub [1, 0] rfl ?_
  obtain ⟨f, h⟩ := h
  exact w_X9_keepAct_L2 (Q := Q) C hr hlk hs (fun σ h => by exact w_X9_keepAct_J34 (Q := Q) C hr hlk hs h) f _ _ h
set_option maxRecDepth 100000 in
set_option maxHeartbeats 4000000 in
theorem c_X9_takeTrial {l : Launch} {dC : Nat → ClassId} {dI : Nat → Nat → Nat} {cA : Nat → ClassId} {al : Nat → Nat} {sh : List Kd} (hs : ShC sh) {σ : St} {Q : Int32 → St → Prop} (h : m_X9_takeTrial σ Q) : ∀ sz, Met l yX9_takeTrial (wd yX9_takeTrial cX9_takeTrial 1 (some .boolean)) (RM 4) (va_Pc ([.ref 61].map (cv al)) (WPre dC dI cA al sh σ sz)) (va_Qi Q (WPost dC dI cA al sh (AW al sh sz)) (AW al sh sz)) 0 0 (AW al sh sz) := by
  refine ww_met (Qc := fun A => va_Qi Q (WPost dC dI cA al sh A) A) (by decide +kernel) (Nat.le_of_ble_eq_true rfl) (fun p e s m args below meth c A C hr hlk => ?_)
  show WW p l e (RM 4) s m args below meth c (MQ below (va_Qi Q (WPost dC dI cA al sh A) A) args s 0 0 A) dC dI cA A 1 0 0 al sh 0 [(0, .ref 61)] [] σ
  unfold m_X9_takeTrial at h
  refine ww_aload_n C 0 rfl dX9_takeTrial_0 ?_
  refine ww_iconst (v := 1) C dX9_takeTrial_1 (by decide) ?_
  refine ww_vi (n := 1) (As := [.int 1]) (rest := []) C (c_X9_isTrace hs h) (shc_61 hs) rfl nq_380 nq_381 nq_382 nq_5 nq_383 (by decide +kernel) rfl rfl ⟨Nat.le_of_ble_eq_true rfl, Nat.le_of_ble_eq_true rfl, Nat.le_of_ble_eq_true rfl, Nat.le_of_ble_eq_true rfl⟩ (Nat.le_of_ble_eq_true rfl) dX9_takeTrial_2 (fun r2 σ2 h => ?_)
  refine ww_if_ne (tgt := 10) C dX9_takeTrial_5 (by decide) (fun hc => ?_) (fun hc => ?_)
  · have h := h.1 hc
    refine ww_aload_n C 0 rfl dX9_takeTrial_10 ?_
    refine ww_vv (n := 0) (As := []) (rest := []) C (c_X9_keepAct hs h) (shc_61 hs) rfl nq_384 nq_385 nq_386 nq_5 nq_387 (by decide +kernel) rfl rfl ⟨Nat.le_of_ble_eq_true rfl, Nat.le_of_ble_eq_true rfl, Nat.le_of_ble_eq_true rfl, Nat.le_of_ble_eq_true rfl⟩ (Nat.le_of_ble_eq_true rfl) dX9_takeTrial_11 (fun σ11 h => ?_)
    refine ww_aload_n C 0 rfl dX9_takeTrial_14 ?_
    refine ww_iconst (v := 0) C dX9_takeTrial_15 (by decide) ?_
    refine ww_iconst (v := 1) C dX9_takeTrial_16 (by decide) ?_
    refine ww_vv (n := 2) (As := [.int 0, .int 1]) (rest := []) C (c_X9_lay hs h) (shc_61 hs) rfl nq_368 nq_369 nq_370 nq_5 nq_371 (by decide +kernel) rfl rfl ⟨Nat.le_of_ble_eq_true rfl, Nat.le_of_ble_eq_true rfl, Nat.le_of_ble_eq_true rfl, Nat.le_of_ble_eq_true rfl⟩ (Nat.le_of_ble_eq_true rfl) dX9_takeTrial_17 (fun σ17 h => ?_)
    refine ww_iconst (v := 1) C dX9_takeTrial_20 (by decide) ?_
    exact ww_zret C hr hlk (by decide) h dX9_takeTrial_21
  · have h := h.2 hc
    refine ww_iconst (v := 0) C dX9_takeTrial_8 (by decide) ?_
    exact ww_zret C hr hlk (by decide) h dX9_takeTrial_9
set_option maxRecDepth 100000 in
set_option maxHeartbeats 4000000 in
theorem c_X9_drop {l : Launch} {dC : Nat → ClassId} {dI : Nat → Nat → Nat} {cA : Nat → ClassId} {al : Nat → Nat} {sh : List Kd} (hs : ShC sh) {σ : St} {a1 : Int32} {Q : Int32 → St → Prop} (h : m_X9_drop σ a1 Q) : ∀ sz, Met l yX9_drop (wd yX9_drop cX9_drop 2 (some .int)) (RM 5) (va_Pc ([.ref 61, .int a1].map (cv al)) (WPre dC dI cA al sh σ sz)) (va_Qi Q (WPost dC dI cA al sh (AW al sh sz)) (AW al sh sz)) 0 0 (AW al sh sz) := by
  refine ww_met (Qc := fun A => va_Qi Q (WPost dC dI cA al sh A) A) (by decide +kernel) (Nat.le_of_ble_eq_true rfl) (fun p e s m args below meth c A C hr hlk => ?_)
  show WW p l e (RM 5) s m args below meth c (MQ below (va_Qi Q (WPost dC dI cA al sh A) A) args s 0 0 A) dC dI cA A 2 0 0 al sh 0 [(0, .ref 61), (1, .int a1)] [] σ
  unfold m_X9_drop at h
  refine ww_aload_n C 0 rfl dX9_drop_0 ?_
  refine ww_iconst (v := 0) C dX9_drop_1 (by decide) ?_
  refine ww_iload_n C 1 rfl dX9_drop_2 ?_
  refine ww_vi (n := 2) (As := [.int 0, .int a1]) (rest := []) C (c_X9_isStep hs h) (shc_61 hs) rfl nq_319 nq_320 nq_321 nq_5 nq_322 (by decide +kernel) rfl rfl ⟨Nat.le_of_ble_eq_true rfl, Nat.le_of_ble_eq_true rfl, Nat.le_of_ble_eq_true rfl, Nat.le_of_ble_eq_true rfl⟩ (Nat.le_of_ble_eq_true rfl) dX9_drop_3 (fun r3 σ3 h => ?_)
  refine ww_if_ne (tgt := 11) C dX9_drop_6 (by decide) (fun hc => ?_) (fun hc => ?_)
  · have h := h.1 hc
    refine ww_aload_n C 0 rfl dX9_drop_11 ?_
    refine ww_iconst (v := 1) C dX9_drop_12 (by decide) ?_
    refine ww_iconst (v := 0) C dX9_drop_13 (by decide) ?_
    refine ww_vv (n := 2) (As := [.int 1, .int 0]) (rest := []) C (c_X9_lay hs h) (shc_61 hs) rfl nq_368 nq_369 nq_370 nq_5 nq_371 (by decide +kernel) rfl rfl ⟨Nat.le_of_ble_eq_true rfl, Nat.le_of_ble_eq_true rfl, Nat.le_of_ble_eq_true rfl, Nat.le_of_ble_eq_true rfl⟩ (Nat.le_of_ble_eq_true rfl) dX9_drop_14 (fun σ14 h => ?_)
    refine ww_aload_n C 0 rfl dX9_drop_17 ?_
    refine ww_iconst (v := 1) C dX9_drop_18 (by decide) ?_
    refine ww_iload_n C 1 rfl dX9_drop_19 ?_
    refine ww_vv (n := 2) (As := [.int 1, .int a1]) (rest := []) C (c_X9_dropOn hs h) (shc_61 hs) rfl nq_372 nq_373 nq_374 nq_5 nq_375 (by decide +kernel) rfl rfl ⟨Nat.le_of_ble_eq_true rfl, Nat.le_of_ble_eq_true rfl, Nat.le_of_ble_eq_true rfl, Nat.le_of_ble_eq_true rfl⟩ (Nat.le_of_ble_eq_true rfl) dX9_drop_20 (fun σ20 h => ?_)
    refine ww_aload_n C 0 rfl dX9_drop_23 ?_
    refine ww_vi (n := 0) (As := []) (rest := []) C (c_X9_takeTrial hs h) (shc_61 hs) rfl nq_376 nq_377 nq_378 nq_5 nq_379 (by decide +kernel) rfl rfl ⟨Nat.le_of_ble_eq_true rfl, Nat.le_of_ble_eq_true rfl, Nat.le_of_ble_eq_true rfl, Nat.le_of_ble_eq_true rfl⟩ (Nat.le_of_ble_eq_true rfl) dX9_drop_24 (fun r24 σ24 h => ?_)
    refine ww_if_eq (tgt := 38) C dX9_drop_27 (by decide) (fun hc => ?_) (fun hc => ?_)
    · have h := h.1 hc
      refine ww_bipush (v := -3) C dX9_drop_38 (by decide) ?_
      exact ww_iret C hr hlk h dX9_drop_40
    · have h := h.2 hc
      refine ww_aload_n C 0 rfl dX9_drop_30 ?_
      refine ww_iconst (v := 0) C dX9_drop_31 (by decide) ?_
      refine ww_vi (n := 1) (As := [.int 0]) (rest := []) C (c_X9_many hs h) (shc_61 hs) rfl nq_291 nq_292 nq_293 nq_5 nq_294 (by decide +kernel) rfl rfl ⟨Nat.le_of_ble_eq_true rfl, Nat.le_of_ble_eq_true rfl, Nat.le_of_ble_eq_true rfl, Nat.le_of_ble_eq_true rfl⟩ (Nat.le_of_ble_eq_true rfl) dX9_drop_32 (fun r32 σ32 h => ?_)
      refine ww_goto (tgt := 40) C dX9_drop_35 (by decide) ?_
      exact ww_iret C hr hlk h dX9_drop_40
  · have h := h.2 hc
    refine ww_iconst (v := -1) C dX9_drop_9 (by decide) ?_
    exact ww_iret C hr hlk h dX9_drop_10
set_option maxRecDepth 100000 in
set_option maxHeartbeats 4000000 in
theorem c_X9_swap {l : Launch} {dC : Nat → ClassId} {dI : Nat → Nat → Nat} {cA : Nat → ClassId} {al : Nat → Nat} {sh : List Kd} (hs : ShC sh) {σ : St} {a1 : Int32} {Q : Int32 → St → Prop} (h : m_X9_swap σ a1 Q) : ∀ sz, Met l yX9_swap (wd yX9_swap cX9_swap 3 (some .int)) (RM 5) (va_Pc ([.ref 61, .int a1].map (cv al)) (WPre dC dI cA al sh σ sz)) (va_Qi Q (WPost dC dI cA al sh (AW al sh sz)) (AW al sh sz)) 0 0 (AW al sh sz) := by
  refine ww_met (Qc := fun A => va_Qi Q (WPost dC dI cA al sh A) A) (by decide +kernel) (Nat.le_of_ble_eq_true rfl) (fun p e s m args below meth c A C hr hlk => ?_)
  show WW p l e (RM 5) s m args below meth c (MQ below (va_Qi Q (WPost dC dI cA al sh A) A) args s 0 0 A) dC dI cA A 3 0 0 al sh 0 [(0, .ref 61), (1, .int a1)] [] σ
  unfold m_X9_swap at h
  refine ww_aload_n C 0 rfl dX9_swap_0 ?_
  refine ww_iconst (v := 0) C dX9_swap_1 (by decide) ?_
  refine ww_iload_n C 1 rfl dX9_swap_2 ?_
  refine ww_vi (n := 2) (As := [.int 0, .int a1]) (rest := []) C (c_X9_isStep hs h) (shc_61 hs) rfl nq_319 nq_320 nq_321 nq_5 nq_322 (by decide +kernel) rfl rfl ⟨Nat.le_of_ble_eq_true rfl, Nat.le_of_ble_eq_true rfl, Nat.le_of_ble_eq_true rfl, Nat.le_of_ble_eq_true rfl⟩ (Nat.le_of_ble_eq_true rfl) dX9_swap_3 (fun r3 σ3 h => ?_)
  refine ww_if_eq (tgt := 20) C dX9_swap_6 (by decide) (fun hc => ?_) (fun hc => ?_)
  · have h := h.1 hc
    refine ww_iconst (v := -1) C dX9_swap_20 (by decide) ?_
    exact ww_iret C hr hlk h dX9_swap_21
  · have h := h.2 hc
    refine ww_iload_n C 1 rfl dX9_swap_9 ?_
    refine ww_aload_n C 0 rfl dX9_swap_10 ?_
    refine ww_iconst (v := 0) C dX9_swap_11 (by decide) ?_
    refine ww_vi (n := 1) (As := [.int 0]) (rest := [.int a1]) C (c_X9_many hs h) (shc_61 hs) rfl nq_291 nq_292 nq_293 nq_5 nq_294 (by decide +kernel) rfl rfl ⟨Nat.le_of_ble_eq_true rfl, Nat.le_of_ble_eq_true rfl, Nat.le_of_ble_eq_true rfl, Nat.le_of_ble_eq_true rfl⟩ (Nat.le_of_ble_eq_true rfl) dX9_swap_12 (fun r12 σ12 h => ?_)
    refine ww_iconst (v := 1) C dX9_swap_15 (by decide) ?_
    refine ww_isub C dX9_swap_16 ?_
    refine ww_icmp_ne (tgt := 22) C dX9_swap_17 (by decide) (fun hc => ?_) (fun hc => ?_)
    · have h := h.1 hc
      refine ww_aload_n C 0 rfl dX9_swap_22 ?_
      refine ww_iconst (v := 0) C dX9_swap_23 (by decide) ?_
      refine ww_iload_n C 1 rfl dX9_swap_24 ?_
      refine ww_vi (n := 2) (As := [.int 0, .int a1]) (rest := []) C (c_X9_threadAt hs h) (shc_61 hs) rfl nq_327 nq_328 nq_329 nq_5 nq_330 (by decide +kernel) rfl rfl ⟨Nat.le_of_ble_eq_true rfl, Nat.le_of_ble_eq_true rfl, Nat.le_of_ble_eq_true rfl, Nat.le_of_ble_eq_true rfl⟩ (Nat.le_of_ble_eq_true rfl) dX9_swap_25 (fun r25 σ25 h => ?_)
      refine ww_istore_n (lv' := [(2, .int r25), (0, .ref 61), (1, .int a1)]) C dX9_swap_28 rfl (by decide) rfl ?_
      refine ww_aload_n C 1 rfl dX9_swap_29 ?_
      refine ww_iconst (v := 1) C dX9_swap_30 (by decide) ?_
      refine ww_iconst (v := 0) C dX9_swap_31 (by decide) ?_
      refine ww_vv (n := 2) (As := [.int 1, .int 0]) (rest := []) C (c_X9_lay hs h) (shc_61 hs) rfl nq_368 nq_369 nq_370 nq_5 nq_371 (by decide +kernel) rfl rfl ⟨Nat.le_of_ble_eq_true rfl, Nat.le_of_ble_eq_true rfl, Nat.le_of_ble_eq_true rfl, Nat.le_of_ble_eq_true rfl⟩ (Nat.le_of_ble_eq_true rfl) dX9_swap_32 (fun σ32 h => ?_)
      refine ww_aload_n C 1 rfl dX9_swap_35 ?_
      refine ww_iconst (v := 1) C dX9_swap_36 (by decide) ?_
      refine ww_iload_n C 2 rfl dX9_swap_37 ?_
      refine ww_vv (n := 2) (As := [.int 1, .int a1]) (rest := []) C (c_X9_swapOn hs h) (shc_61 hs) rfl nq_410 nq_411 nq_412 nq_5 nq_413 (by decide +kernel) rfl rfl ⟨Nat.le_of_ble_eq_true rfl, Nat.le_of_ble_eq_true rfl, Nat.le_of_ble_eq_true rfl, Nat.le_of_ble_eq_true rfl⟩ (Nat.le_of_ble_eq_true rfl) dX9_swap_38 (fun σ38 h => ?_)
      refine ww_aload_n C 1 rfl dX9_swap_41 ?_
      refine ww_vi (n := 0) (As := []) (rest := []) C (c_X9_takeTrial hs h) (shc_61 hs) rfl nq_376 nq_377 nq_378 nq_5 nq_379 (by decide +kernel) rfl rfl ⟨Nat.le_of_ble_eq_true rfl, Nat.le_of_ble_eq_true rfl, Nat.le_of_ble_eq_true rfl, Nat.le_of_ble_eq_true rfl⟩ (Nat.le_of_ble_eq_true rfl) dX9_swap_42 (fun r42 σ42 h => ?_)
      refine ww_if_eq (tgt := 52) C dX9_swap_45 (by decide) (fun hc => ?_) (fun hc => ?_)
      · have h := h.1 hc
        refine ww_bipush (v := -3) C dX9_swap_52 (by decide) ?_
        exact ww_iret C hr hlk h dX9_swap_54
      · have h := h.2 hc
        refine ww_iload_n C 0 rfl dX9_swap_48 ?_
        refine ww_goto (tgt := 54) C dX9_swap_49 (by decide) ?_
        exact ww_iret C hr hlk h dX9_swap_54
    · have h := h.2 hc
      refine ww_iconst (v := -1) C dX9_swap_20 (by decide) ?_
      exact ww_iret C hr hlk h dX9_swap_21
set_option maxRecDepth 100000 in
set_option maxHeartbeats 4000000 in
theorem w_X9_undo_L36b {p : Program} {l : Launch} {e : Env} {s : State} {m : MethodId} {args : Array Value} {below : List Frame} {meth : Method} {c : Code} {dC : Nat → ClassId} {dI : Nat → Nat → Nat} {cA : Nat → ClassId} {A : Nat → Prop} {al : Nat → Nat} {sh : List Kd} (C : Fx p s m args c cX9_undo 2 yX9_undo.cls dC dI cA A al) (hr : meth.sig.returnType = some .int) (hlk : meth.locks = false) (hs : ShC sh) {Q : Int32 → St → Prop} {K68 : St → Prop} (hK68 : ∀ (σ : St), K68 σ → WW p l e (RM 0) s m args below meth c (MQ below (va_Qi Q (WPost dC dI cA al sh A) A) args s 0 0 A) dC dI cA A 2 0 0 al sh 68 [(0, .ref 61)] [] σ) {Rc : St → Int32 → Prop} (hRc : ∀ (σ : St) (x1 : Int32), Rc σ x1 → WW p l e (RM 0) s m args below meth c (MQ below (va_Qi Q (WPost dC dI cA al sh A) A) args s 0 0 A) dC dI cA A 2 0 0 al sh 36 [(0, .ref 61), (1, .int x1)] [] σ) {σ : St} {x1 : Int32} (h : m_X9_undo_L36b Q K68 Rc σ x1) : WW p l e (RM 0) s m args below meth c (MQ below (va_Qi Q (WPost dC dI cA al sh A) A) args s 0 0 A) dC dI cA A 2 0 0 al sh 36 [(0, .ref 61), (1, .int x1)] [] σ := by
  unfold m_X9_undo_L36b at h
  refine ww_iload_n C 1 rfl dX9_undo_36 ?_
  refine ww_bipush (v := 21) C dX9_undo_37 (by decide) ?_
  refine ww_icmp_ge (tgt := 68) C dX9_undo_39 (by decide) (fun hc => ?_) (fun hc => ?_)
  · have h := h.1 hc
    refine ww_sub [0] rfl ?_
    exact hK68 _ h
  · have h := h.2 hc
    refine ww_aload_n C 0 rfl dX9_undo_42 ?_
    refine ww_getR C (shc_61 hs) rfl inG9 4 (by decide) nq_123 rfl dX9_undo_43 ?_
    refine ww_iload_n C 1 rfl dX9_undo_46 ?_
    refine ww_aload_n C 0 rfl dX9_undo_47 ?_
    refine ww_getR C (shc_61 hs) rfl inG9 12 (by decide) nq_128 rfl dX9_undo_48 ?_
    refine ww_bipush (v := 21) C dX9_undo_51 (by decide) ?_
    refine ww_aload_n C 0 rfl dX9_undo_53 ?_
    refine ww_getI C (shc_61 hs) rfl inG9 11 (by decide) nq_388 rfl dX9_undo_54 ?_
    refine ww_imul C dX9_undo_57 ?_
    refine ww_iload_n C 1 rfl dX9_undo_58 ?_
    refine ww_iadd C dX9_undo_59 ?_
    refine ww_iald C (shc_69 hs) h.1 dX9_undo_60 ?_
    have h := h.2
    refine ww_iast C (shc_64 hs) h.1 dX9_undo_61 h.2 (fun σ61 h => ?_)
    refine ww_iinc (v := (x1 + 1)) (lv' := [(1, .int (x1 + 1)), (0, .ref 61)]) C 1 rfl dX9_undo_62 rfl (by decide) rfl ?_
    refine ww_goto (tgt := 36) C dX9_undo_65 (by decide) ?_
    refine ww_sub [1, 0] rfl ?_
    exact hRc _ _ h
set_option maxRecDepth 100000 in
set_option maxHeartbeats 4000000 in
theorem w_X9_undo_L36 {p : Program} {l : Launch} {e : Env} {s : State} {m : MethodId} {args : Array Value} {below : List Frame} {meth : Method} {c : Code} {dC : Nat → ClassId} {dI : Nat → Nat → Nat} {cA : Nat → ClassId} {A : Nat → Prop} {al : Nat → Nat} {sh : List Kd} (C : Fx p s m args c cX9_undo 2 yX9_undo.cls dC dI cA A al) (hr : meth.sig.returnType = some .int) (hlk : meth.locks = false) (hs : ShC sh) {Q : Int32 → St → Prop} {K68 : St → Prop} (hK68 : ∀ (σ : St), K68 σ → WW p l e (RM 0) s m args below meth c (MQ below (va_Qi Q (WPost dC dI cA al sh A) A) args s 0 0 A) dC dI cA A 2 0 0 al sh 68 [(0, .ref 61)] [] σ) : ∀ (f : Nat) (σ : St) (x1 : Int32), m_X9_undo_L36 Q K68 f σ x1 → WW p l e (RM 0) s m args below meth c (MQ below (va_Qi Q (WPost dC dI cA al sh A) A) args s 0 0 A) dC dI cA A 2 0 0 al sh 36 [(0, .ref 61), (1, .int x1)] [] σ := by
  intro f
  induction f with
  | zero => intro σ x1 h; exact False.elim h
  | succ f ih => intro σ x1 h; exact w_X9_undo_L36b (Q := Q) C hr hlk hs hK68 ih h
set_option maxRecDepth 100000 in
set_option maxHeartbeats 4000000 in
theorem w_X9_undo_J68 {p : Program} {l : Launch} {e : Env} {s : State} {m : MethodId} {args : Array Value} {below : List Frame} {meth : Method} {c : Code} {dC : Nat → ClassId} {dI : Nat → Nat → Nat} {cA : Nat → ClassId} {A : Nat → Prop} {al : Nat → Nat} {sh : List Kd} (C : Fx p s m args c cX9_undo 2 yX9_undo.cls dC dI cA A al) (hr : meth.sig.returnType = some .int) (hlk : meth.locks = false) (hs : ShC sh) {Q : Int32 → St → Prop} {σ : St} (h : m_X9_undo_J68 Q σ) : WW p l e (RM 0) s m args below meth c (MQ below (va_Qi Q (WPost dC dI cA al sh A) A) args s 0 0 A) dC dI cA A 2 0 0 al sh 68 [(0, .ref 61)] [] σ := by
  unfold m_X9_undo_J68 at h
  refine ww_aload_n C 0 rfl dX9_undo_68 ?_
  refine ww_getI C (shc_61 hs) rfl inG9 10 (by decide) nq_290 rfl dX9_undo_69 ?_
  exact ww_iret C hr hlk h dX9_undo_72
set_option maxRecDepth 100000 in
set_option maxHeartbeats 4000000 in
theorem c_X9_undo {l : Launch} {dC : Nat → ClassId} {dI : Nat → Nat → Nat} {cA : Nat → ClassId} {al : Nat → Nat} {sh : List Kd} (hs : ShC sh) {σ : St} {Q : Int32 → St → Prop} (h : m_X9_undo σ Q) : ∀ sz, Met l yX9_undo (wd yX9_undo cX9_undo 2 (some .int)) (RM 0) (va_Pc ([.ref 61].map (cv al)) (WPre dC dI cA al sh σ sz)) (va_Qi Q (WPost dC dI cA al sh (AW al sh sz)) (AW al sh sz)) 0 0 (AW al sh sz) := by
  refine ww_met (Qc := fun A => va_Qi Q (WPost dC dI cA al sh A) A) (by decide +kernel) (Nat.le_of_ble_eq_true rfl) (fun p e s m args below meth c A C hr hlk => ?_)
  show WW p l e (RM 0) s m args below meth c (MQ below (va_Qi Q (WPost dC dI cA al sh A) A) args s 0 0 A) dC dI cA A 2 0 0 al sh 0 [(0, .ref 61)] [] σ
  unfold m_X9_undo at h
  refine ww_aload_n C 0 rfl dX9_undo_0 ?_
  refine ww_getI C (shc_61 hs) rfl inG9 10 (by decide) nq_290 rfl dX9_undo_1 ?_
  refine ww_if_ne (tgt := 10) C dX9_undo_4 (by decide) (fun hc => ?_) (fun hc => ?_)
  · have h := h.1 hc
    refine ww_aload_n C 0 rfl dX9_undo_10 ?_
    refine ww_dup C rfl dX9_undo_11 ?_
    refine ww_getI C (shc_61 hs) rfl inG9 10 (by decide) nq_290 rfl dX9_undo_12 ?_
    refine ww_iconst (v := 1) C dX9_undo_15 (by decide) ?_
    refine ww_isub C dX9_undo_16 ?_
    refine ww_putI C (shc_61 hs) rfl inG9 10 (by decide) nq_290 tyX9 tyX9_ok nmX9 rfl (by decide +kernel) rfl dX9_undo_17 h (fun σ17 h => ?_)
    refine ww_aload_n C 0 rfl dX9_undo_20 ?_
    refine ww_aload_n C 0 rfl dX9_undo_21 ?_
    refine ww_getI C (shc_61 hs) rfl inG9 11 (by decide) nq_388 rfl dX9_undo_22 ?_
    refine ww_bipush (v := 13) C dX9_undo_25 (by decide) ?_
    refine ww_iadd C dX9_undo_27 ?_
    refine ww_bipush (v := 14) C dX9_undo_28 (by decide) ?_
    refine ww_irem C dX9_undo_30 (by decide) ?_
    refine ww_putI C (shc_61 hs) rfl inG9 11 (by decide) nq_388 tyX9 tyX9_ok nmX9 rfl (by decide +kernel) rfl dX9_undo_31 h (fun σ31 h => ?_)
    refine ww_iconst (v := 0) C dX9_undo_34 (by decide) ?_
    refine ww_istore_n (lv' := [(1, .int 0), (0, .ref 61)]) C dX9_undo_35 rfl (by decide) rfl ?_
    refine ww_sub [1, 0] rfl ?_
    obtain ⟨f, h⟩ := h
    exact w_X9_undo_L36 (Q := Q) C hr hlk hs (fun σ h => by exact w_X9_undo_J68 (Q := Q) C hr hlk hs h) f _ _ h
  · have h := h.2 hc
    refine ww_bipush (v := -3) C dX9_undo_7 (by decide) ?_
    exact ww_iret C hr hlk h dX9_undo_9
set_option maxRecDepth 100000 in
set_option maxHeartbeats 4000000 in
theorem c_X9_guardsOf {l : Launch} {dC : Nat → ClassId} {dI : Nat → Nat → Nat} {cA : Nat → ClassId} {al : Nat → Nat} {sh : List Kd} (hs : ShC sh) {σ : St} {a1 : Int32} {a2 : Int32} {Q : Int32 → St → Prop} (h : m_X9_guardsOf σ a1 a2 Q) : ∀ sz, Met l yX9_guardsOf (wd yX9_guardsOf cX9_guardsOf 3 (some .int)) (RM 1) (va_Pc ([.ref 61, .int a1, .int a2].map (cv al)) (WPre dC dI cA al sh σ sz)) (va_Qi Q (WPost dC dI cA al sh (AW al sh sz)) (AW al sh sz)) 0 0 (AW al sh sz) := by
  refine ww_met (Qc := fun A => va_Qi Q (WPost dC dI cA al sh A) A) (by decide +kernel) (Nat.le_of_ble_eq_true rfl) (fun p e s m args below meth c A C hr hlk => ?_)
  show WW p l e (RM 1) s m args below meth c (MQ below (va_Qi Q (WPost dC dI cA al sh A) A) args s 0 0 A) dC dI cA A 3 0 0 al sh 0 [(0, .ref 61), (1, .int a1), (2, .int a2)] [] σ
  unfold m_X9_guardsOf at h
  refine ww_aload_n C 0 rfl dX9_guardsOf_0 ?_
  refine ww_iload_n C 1 rfl dX9_guardsOf_1 ?_
  refine ww_iload_n C 2 rfl dX9_guardsOf_2 ?_
  refine ww_vi (n := 2) (As := [.int a1, .int a2]) (rest := []) C (c_X9_signAt hs h) (shc_61 hs) rfl nq_331 nq_332 nq_333 nq_5 nq_334 (by decide +kernel) rfl rfl ⟨Nat.le_of_ble_eq_true rfl, Nat.le_of_ble_eq_true rfl, Nat.le_of_ble_eq_true rfl, Nat.le_of_ble_eq_true rfl⟩ (Nat.le_of_ble_eq_true rfl) dX9_guardsOf_3 (fun r3 σ3 h => ?_)
  refine ww_iconst (v := 3) C dX9_guardsOf_6 (by decide) ?_
  refine ww_icmp_ne (tgt := 26) C dX9_guardsOf_7 (by decide) (fun hc => ?_) (fun hc => ?_)
  · have h := h.1 hc
    refine ww_aload_n C 0 rfl dX9_guardsOf_26 ?_
    refine ww_getR C (shc_61 hs) rfl inG9 8 (by decide) nq_126 rfl dX9_guardsOf_27 ?_
    refine ww_iload_n C 2 rfl dX9_guardsOf_30 ?_
    refine ww_iald C (shc_67 hs) h.1 dX9_guardsOf_31 ?_
    have h := h.2
    exact ww_iret C hr hlk h dX9_guardsOf_32
  · have h := h.2 hc
    refine ww_aload_n C 0 rfl dX9_guardsOf_10 ?_
    refine ww_getR C (shc_61 hs) rfl inG9 8 (by decide) nq_126 rfl dX9_guardsOf_11 ?_
    refine ww_iload_n C 2 rfl dX9_guardsOf_14 ?_
    refine ww_iald C (shc_67 hs) h.1 dX9_guardsOf_15 ?_
    have h := h.2
    refine ww_aload_n C 0 rfl dX9_guardsOf_16 ?_
    refine ww_getR C (shc_61 hs) rfl inG9 9 (by decide) nq_127 rfl dX9_guardsOf_17 ?_
    refine ww_iload_n C 2 rfl dX9_guardsOf_20 ?_
    refine ww_iald C (shc_68 hs) h.1 dX9_guardsOf_21 ?_
    have h := h.2
    refine ww_ior C dX9_guardsOf_22 ?_
    refine ww_goto (tgt := 32) C dX9_guardsOf_23 (by decide) ?_
    exact ww_iret C hr hlk h dX9_guardsOf_32
set_option maxRecDepth 100000 in
set_option maxHeartbeats 4000000 in
theorem w_X9_watch_J142 {p : Program} {l : Launch} {e : Env} {s : State} {m : MethodId} {args : Array Value} {below : List Frame} {meth : Method} {c : Code} {dC : Nat → ClassId} {dI : Nat → Nat → Nat} {cA : Nat → ClassId} {A : Nat → Prop} {al : Nat → Nat} {sh : List Kd} (C : Fx p s m args c cX9_watch 7 yX9_watch.cls dC dI cA A al) (hr : meth.sig.returnType = none) (hlk : meth.locks = false) (hs : ShC sh) {a1 : Int32} {a2 : Int32} {a3 : Int32} {Q : St → Prop} {σ : St} (h : m_X9_watch_J142 a1 a2 a3 Q σ) : WW p l e (RM 2) s m args below meth c (MQ below (va_Qv Q (WPost dC dI cA al sh A) A) args s 0 0 A) dC dI cA A 7 0 0 al sh 142 [(0, .ref 61), (2, .int a2)] [] σ := by
  unfold m_X9_watch_J142 at h
  refine ww_aload_n C 0 rfl dX9_watch_142 ?_
  refine ww_aload_n C 0 rfl dX9_watch_143 ?_
  refine ww_getI C (shc_61 hs) rfl inG9 16 (by decide) nq_480 rfl dX9_watch_144 ?_
  refine ww_bipush (v := -9) C dX9_watch_147 (by decide) ?_
  refine ww_icmp_ne (tgt := 171) C dX9_watch_149 (by decide) (fun hc => ?_) (fun hc => ?_)
  · have h := h.1 hc
    refine ww_aload_n C 0 rfl dX9_watch_171 ?_
    refine ww_getI C (shc_61 hs) rfl inG9 16 (by decide) nq_480 rfl dX9_watch_172 ?_
    refine ww_putI C (shc_61 hs) rfl inG9 16 (by decide) nq_480 tyX9 tyX9_ok nmX9 rfl (by decide +kernel) rfl dX9_watch_175 h (fun σ175 h => ?_)
    exact ww_vret C hr hlk h dX9_watch_178
  · have h := h.2 hc
    refine ww_aload_n C 0 rfl dX9_watch_152 ?_
    refine ww_getI C (shc_61 hs) rfl inG9 13 (by decide) nq_477 rfl dX9_watch_153 ?_
    refine ww_iconst (v := 3) C dX9_watch_156 (by decide) ?_
    refine ww_icmp_ne (tgt := 171) C dX9_watch_157 (by decide) (fun hc => ?_) (fun hc => ?_)
    · have h := h.1 hc
      refine ww_aload_n C 0 rfl dX9_watch_171 ?_
      refine ww_getI C (shc_61 hs) rfl inG9 16 (by decide) nq_480 rfl dX9_watch_172 ?_
      refine ww_putI C (shc_61 hs) rfl inG9 16 (by decide) nq_480 tyX9 tyX9_ok nmX9 rfl (by decide +kernel) rfl dX9_watch_175 h (fun σ175 h => ?_)
      exact ww_vret C hr hlk h dX9_watch_178
    · have h := h.2 hc
      refine ww_aload_n C 0 rfl dX9_watch_160 ?_
      refine ww_getI C (shc_61 hs) rfl inG9 14 (by decide) nq_478 rfl dX9_watch_161 ?_
      refine ww_if_ne (tgt := 171) C dX9_watch_164 (by decide) (fun hc => ?_) (fun hc => ?_)
      · have h := h.1 hc
        refine ww_aload_n C 0 rfl dX9_watch_171 ?_
        refine ww_getI C (shc_61 hs) rfl inG9 16 (by decide) nq_480 rfl dX9_watch_172 ?_
        refine ww_putI C (shc_61 hs) rfl inG9 16 (by decide) nq_480 tyX9 tyX9_ok nmX9 rfl (by decide +kernel) rfl dX9_watch_175 h (fun σ175 h => ?_)
        exact ww_vret C hr hlk h dX9_watch_178
      · have h := h.2 hc
        refine ww_iload_n C 1 rfl dX9_watch_167 ?_
        refine ww_goto (tgt := 175) C dX9_watch_168 (by decide) ?_
        refine ww_putI C (shc_61 hs) rfl inG9 16 (by decide) nq_480 tyX9 tyX9_ok nmX9 rfl (by decide +kernel) rfl dX9_watch_175 h (fun σ175 h => ?_)
        exact ww_vret C hr hlk h dX9_watch_178
set_option maxRecDepth 100000 in
set_option maxHeartbeats 4000000 in
theorem w_X9_watch_J128 {p : Program} {l : Launch} {e : Env} {s : State} {m : MethodId} {args : Array Value} {below : List Frame} {meth : Method} {c : Code} {dC : Nat → ClassId} {dI : Nat → Nat → Nat} {cA : Nat → ClassId} {A : Nat → Prop} {al : Nat → Nat} {sh : List Kd} (C : Fx p s m args c cX9_watch 7 yX9_watch.cls dC dI cA A al) (hr : meth.sig.returnType = none) (hlk : meth.locks = false) (hs : ShC sh) {a1 : Int32} {a2 : Int32} {a3 : Int32} {Q : St → Prop} {σ : St} {x5 : Int32} {t1 : Int32} (h : m_X9_watch_J128 a1 a2 a3 Q σ x5 t1) : WW p l e (RM 2) s m args below meth c (MQ below (va_Qv Q (WPost dC dI cA al sh A) A) args s 0 0 A) dC dI cA A 7 0 0 al sh 128 [(0, .ref 61), (2, .int a2), (5, .int x5)] [.int t1, .ref 61] σ := by
  unfold m_X9_watch_J128 at h
  refine ww_putI C (shc_61 hs) rfl inG9 13 (by decide) nq_477 tyX9 tyX9_ok nmX9 rfl (by decide +kernel) rfl dX9_watch_128 h (fun σ128 h => ?_)
  refine ww_aload_n C 0 rfl dX9_watch_131 ?_
  refine ww_dup C rfl dX9_watch_132 ?_
  refine ww_getI C (shc_61 hs) rfl inG9 14 (by decide) nq_478 rfl dX9_watch_133 ?_
  refine ww_iload C 2 rfl dX9_watch_136 ?_
  refine ww_iand C dX9_watch_138 ?_
  refine ww_putI C (shc_61 hs) rfl inG9 14 (by decide) nq_478 tyX9 tyX9_ok nmX9 rfl (by decide +kernel) rfl dX9_watch_139 h (fun σ139 h => ?_)
  refine ww_sub [0, 1] rfl ?_
  exact w_X9_watch_J142 (Q := Q) (a1 := a1) (a2 := a2) (a3 := a3) C hr hlk hs h
set_option maxRecDepth 100000 in
set_option maxHeartbeats 4000000 in
theorem w_X9_watch_J106 {p : Program} {l : Launch} {e : Env} {s : State} {m : MethodId} {args : Array Value} {below : List Frame} {meth : Method} {c : Code} {dC : Nat → ClassId} {dI : Nat → Nat → Nat} {cA : Nat → ClassId} {A : Nat → Prop} {al : Nat → Nat} {sh : List Kd} (C : Fx p s m args c cX9_watch 7 yX9_watch.cls dC dI cA A al) (hr : meth.sig.returnType = none) (hlk : meth.locks = false) (hs : ShC sh) {a1 : Int32} {a2 : Int32} {a3 : Int32} {Q : St → Prop} {σ : St} {x4 : Int32} {x5 : Int32} (h : m_X9_watch_J106 a1 a2 a3 Q σ x4 x5) : WW p l e (RM 2) s m args below meth c (MQ below (va_Qv Q (WPost dC dI cA al sh A) A) args s 0 0 A) dC dI cA A 7 0 0 al sh 106 [(0, .ref 61), (2, .int a2), (4, .int x4), (5, .int x5)] [] σ := by
  unfold m_X9_watch_J106 at h
  refine ww_aload_n C 0 rfl dX9_watch_106 ?_
  refine ww_getI C (shc_61 hs) rfl inG9 13 (by decide) nq_477 rfl dX9_watch_107 ?_
  refine ww_iconst (v := 1) C dX9_watch_110 (by decide) ?_
  refine ww_icmp_le (tgt := 142) C dX9_watch_111 (by decide) (fun hc => ?_) (fun hc => ?_)
  · have h := h.1 hc
    refine ww_sub [0, 1] rfl ?_
    exact w_X9_watch_J142 (Q := Q) (a1 := a1) (a2 := a2) (a3 := a3) C hr hlk hs h
  · have h := h.2 hc
    refine ww_aload_n C 0 rfl dX9_watch_114 ?_
    refine ww_iload C 2 rfl dX9_watch_115 ?_
    refine ww_if_eq (tgt := 124) C dX9_watch_117 (by decide) (fun hc => ?_) (fun hc => ?_)
    · have h := h.1 hc
      refine ww_aload_n C 0 rfl dX9_watch_124 ?_
      refine ww_getI C (shc_61 hs) rfl inG9 13 (by decide) nq_477 rfl dX9_watch_125 ?_
      refine ww_sub [0, 1, 3] rfl ?_
      exact w_X9_watch_J128 (Q := Q) (a1 := a1) (a2 := a2) (a3 := a3) C hr hlk hs h
    · have h := h.2 hc
      refine ww_iconst (v := 3) C dX9_watch_120 (by decide) ?_
      refine ww_goto (tgt := 128) C dX9_watch_121 (by decide) ?_
      refine ww_sub [0, 1, 3] rfl ?_
      exact w_X9_watch_J128 (Q := Q) (a1 := a1) (a2 := a2) (a3 := a3) C hr hlk hs h
set_option maxRecDepth 100000 in
set_option maxHeartbeats 4000000 in
theorem w_X9_watch_J94 {p : Program} {l : Launch} {e : Env} {s : State} {m : MethodId} {args : Array Value} {below : List Frame} {meth : Method} {c : Code} {dC : Nat → ClassId} {dI : Nat → Nat → Nat} {cA : Nat → ClassId} {A : Nat → Prop} {al : Nat → Nat} {sh : List Kd} (C : Fx p s m args c cX9_watch 7 yX9_watch.cls dC dI cA A al) (hr : meth.sig.returnType = none) (hlk : meth.locks = false) (hs : ShC sh) {a1 : Int32} {a2 : Int32} {a3 : Int32} {Q : St → Prop} {σ : St} {x5 : Int32} {t1 : Int32} (h : m_X9_watch_J94 a1 a2 a3 Q σ x5 t1) : WW p l e (RM 2) s m args below meth c (MQ below (va_Qv Q (WPost dC dI cA al sh A) A) args s 0 0 A) dC dI cA A 7 0 0 al sh 94 [(0, .ref 61), (2, .int a2), (5, .int x5)] [.int t1, .ref 61] σ := by
  unfold m_X9_watch_J94 at h
  refine ww_putI C (shc_61 hs) rfl inG9 13 (by decide) nq_477 tyX9 tyX9_ok nmX9 rfl (by decide +kernel) rfl dX9_watch_94 h (fun σ94 h => ?_)
  refine ww_aload_n C 0 rfl dX9_watch_97 ?_
  refine ww_iload C 2 rfl dX9_watch_98 ?_
  refine ww_putI C (shc_61 hs) rfl inG9 14 (by decide) nq_478 tyX9 tyX9_ok nmX9 rfl (by decide +kernel) rfl dX9_watch_100 h (fun σ100 h => ?_)
  refine ww_goto (tgt := 142) C dX9_watch_103 (by decide) ?_
  refine ww_sub [0, 1] rfl ?_
  exact w_X9_watch_J142 (Q := Q) (a1 := a1) (a2 := a2) (a3 := a3) C hr hlk hs h
set_option maxRecDepth 100000 in
set_option maxHeartbeats 4000000 in
theorem w_X9_watch_J15 {p : Program} {l : Launch} {e : Env} {s : State} {m : MethodId} {args : Array Value} {below : List Frame} {meth : Method} {c : Code} {dC : Nat → ClassId} {dI : Nat → Nat → Nat} {cA : Nat → ClassId} {A : Nat → Prop} {al : Nat → Nat} {sh : List Kd} (C : Fx p s m args c cX9_watch 7 yX9_watch.cls dC dI cA A al) (hr : meth.sig.returnType = none) (hlk : meth.locks = false) (hs : ShC sh) {a1 : Int32} {a2 : Int32} {a3 : Int32} {Q : St → Prop} {σ : St} {t0 : Int32} (h : m_X9_watch_J15 a1 a2 a3 Q σ t0) : WW p l e (RM 2) s m args below meth c (MQ below (va_Qv Q (WPost dC dI cA al sh A) A) args s 0 0 A) dC dI cA A 7 0 0 al sh 15 [(0, .ref 61), (1, .int a1), (2, .int a2), (3, .int a3)] [.int t0] σ := by
  unfold m_X9_watch_J15 at h
  refine ww_istore (lv' := [(4, .int t0), (0, .ref 61), (1, .int a1), (2, .int a2), (3, .int a3)]) C dX9_watch_15 (by decide) rfl ?_
  refine ww_aload_n C 1 rfl dX9_watch_17 ?_
  refine ww_iload_n C 2 rfl dX9_watch_18 ?_
  refine ww_iload_n C 3 rfl dX9_watch_19 ?_
  refine ww_vi (n := 2) (As := [.int a1, .int a2]) (rest := []) C (c_X9_guardsOf hs h) (shc_61 hs) rfl nq_501 nq_502 nq_503 nq_5 nq_504 (by decide +kernel) rfl rfl ⟨Nat.le_of_ble_eq_true rfl, Nat.le_of_ble_eq_true rfl, Nat.le_of_ble_eq_true rfl, Nat.le_of_ble_eq_true rfl⟩ (Nat.le_of_ble_eq_true rfl) dX9_watch_20 (fun r20 σ20 h => ?_)
  refine ww_iload_n C 4 rfl dX9_watch_23 ?_
  refine ww_iand C dX9_watch_24 ?_
  refine ww_nmI h (fun y25 h => ?_)
  refine ww_istore (lv' := [(5, .int y25), (4, .int t0), (0, .ref 61), (1, .int a1), (2, .int a2), (3, .int a3)]) C dX9_watch_25 (by decide) rfl ?_
  refine ww_aload_n C 2 rfl dX9_watch_27 ?_
  refine ww_iload_n C 3 rfl dX9_watch_28 ?_
  refine ww_iload_n C 4 rfl dX9_watch_29 ?_
  refine ww_vi (n := 2) (As := [.int a1, .int a2]) (rest := []) C (c_X9_threadAt hs h) (shc_61 hs) rfl nq_327 nq_328 nq_329 nq_5 nq_330 (by decide +kernel) rfl rfl ⟨Nat.le_of_ble_eq_true rfl, Nat.le_of_ble_eq_true rfl, Nat.le_of_ble_eq_true rfl, Nat.le_of_ble_eq_true rfl⟩ (Nat.le_of_ble_eq_true rfl) dX9_watch_30 (fun r30 σ30 h => ?_)
  refine ww_istore (lv' := [(6, .int r30), (5, .int y25), (4, .int t0), (0, .ref 61), (1, .int a1), (2, .int a2), (3, .int a3)]) C dX9_watch_33 (by decide) rfl ?_
  refine ww_aload_n C 3 rfl dX9_watch_35 ?_
  refine ww_dup C rfl dX9_watch_36 ?_
  refine ww_getI C (shc_61 hs) rfl inG9 17 (by decide) nq_481 rfl dX9_watch_37 ?_
  refine ww_iconst (v := 1) C dX9_watch_40 (by decide) ?_
  refine ww_iadd C dX9_watch_41 ?_
  refine ww_putI C (shc_61 hs) rfl inG9 17 (by decide) nq_481 tyX9 tyX9_ok nmX9 rfl (by decide +kernel) rfl dX9_watch_42 h (fun σ42 h => ?_)
  refine ww_aload_n C 3 rfl dX9_watch_45 ?_
  refine ww_getI C (shc_61 hs) rfl inG9 13 (by decide) nq_477 rfl dX9_watch_46 ?_
  refine ww_if_ne (tgt := 66) C dX9_watch_49 (by decide) (fun hc => ?_) (fun hc => ?_)
  · have h := h.1 hc
    refine ww_aload_n C 3 rfl dX9_watch_66 ?_
    refine ww_getI C (shc_61 hs) rfl inG9 13 (by decide) nq_477 rfl dX9_watch_67 ?_
    refine ww_iconst (v := 1) C dX9_watch_70 (by decide) ?_
    refine ww_icmp_ne (tgt := 106) C dX9_watch_71 (by decide) (fun hc => ?_) (fun hc => ?_)
    · have h := h.1 hc
      refine ww_sub [3, 5, 2, 1] rfl ?_
      exact w_X9_watch_J106 (Q := Q) (a1 := a1) (a2 := a2) (a3 := a3) C hr hlk hs h
    · have h := h.2 hc
      refine ww_iload C 0 rfl dX9_watch_74 ?_
      refine ww_aload_n C 3 rfl dX9_watch_76 ?_
      refine ww_getI C (shc_61 hs) rfl inG9 15 (by decide) nq_479 rfl dX9_watch_77 ?_
      refine ww_icmp_eq (tgt := 106) C dX9_watch_80 (by decide) (fun hc => ?_) (fun hc => ?_)
      · have h := h.1 hc
        refine ww_sub [3, 5, 2, 1] rfl ?_
        exact w_X9_watch_J106 (Q := Q) (a1 := a1) (a2 := a2) (a3 := a3) C hr hlk hs h
      · have h := h.2 hc
        refine ww_aload_n C 3 rfl dX9_watch_83 ?_
        refine ww_iload C 2 rfl dX9_watch_84 ?_
        refine ww_if_eq (tgt := 93) C dX9_watch_86 (by decide) (fun hc => ?_) (fun hc => ?_)
        · have h := h.1 hc
          refine ww_iconst (v := 2) C dX9_watch_93 (by decide) ?_
          refine ww_sub [3, 5, 1] rfl ?_
          exact w_X9_watch_J94 (Q := Q) (a1 := a1) (a2 := a2) (a3 := a3) C hr hlk hs h
        · have h := h.2 hc
          refine ww_iconst (v := 3) C dX9_watch_89 (by decide) ?_
          refine ww_goto (tgt := 94) C dX9_watch_90 (by decide) ?_
          refine ww_sub [3, 5, 1] rfl ?_
          exact w_X9_watch_J94 (Q := Q) (a1 := a1) (a2 := a2) (a3 := a3) C hr hlk hs h
  · have h := h.2 hc
    refine ww_aload_n C 3 rfl dX9_watch_52 ?_
    refine ww_iconst (v := 1) C dX9_watch_53 (by decide) ?_
    refine ww_putI C (shc_61 hs) rfl inG9 13 (by decide) nq_477 tyX9 tyX9_ok nmX9 rfl (by decide +kernel) rfl dX9_watch_54 h (fun σ54 h => ?_)
    refine ww_aload_n C 3 rfl dX9_watch_57 ?_
    refine ww_iload C 0 rfl dX9_watch_58 ?_
    refine ww_putI C (shc_61 hs) rfl inG9 15 (by decide) nq_479 tyX9 tyX9_ok nmX9 rfl (by decide +kernel) rfl dX9_watch_60 h (fun σ60 h => ?_)
    refine ww_goto (tgt := 142) C dX9_watch_63 (by decide) ?_
    refine ww_sub [3, 5] rfl ?_
    exact w_X9_watch_J142 (Q := Q) (a1 := a1) (a2 := a2) (a3 := a3) C hr hlk hs h
set_option maxRecDepth 100000 in
set_option maxHeartbeats 4000000 in
theorem c_X9_watch {l : Launch} {dC : Nat → ClassId} {dI : Nat → Nat → Nat} {cA : Nat → ClassId} {al : Nat → Nat} {sh : List Kd} (hs : ShC sh) {σ : St} {a1 : Int32} {a2 : Int32} {a3 : Int32} {Q : St → Prop} (h : m_X9_watch σ a1 a2 a3 Q) : ∀ sz, Met l yX9_watch (wd yX9_watch cX9_watch 7 none) (RM 2) (va_Pc ([.ref 61, .int a1, .int a2, .int a3].map (cv al)) (WPre dC dI cA al sh σ sz)) (va_Qv Q (WPost dC dI cA al sh (AW al sh sz)) (AW al sh sz)) 0 0 (AW al sh sz) := by
  refine ww_met (Qc := fun A => va_Qv Q (WPost dC dI cA al sh A) A) (by decide +kernel) (Nat.le_of_ble_eq_true rfl) (fun p e s m args below meth c A C hr hlk => ?_)
  show WW p l e (RM 2) s m args below meth c (MQ below (va_Qv Q (WPost dC dI cA al sh A) A) args s 0 0 A) dC dI cA A 7 0 0 al sh 0 [(0, .ref 61), (1, .int a1), (2, .int a2), (3, .int a3)] [] σ
  unfold m_X9_watch at h
  refine ww_aload_n C 0 rfl dX9_watch_0 ?_
  refine ww_iload_n C 1 rfl dX9_watch_1 ?_
  refine ww_iload_n C 2 rfl dX9_watch_2 ?_
  refine ww_vi (n := 2) (As := [.int a1, .int a2]) (rest := []) C (c_X9_signAt hs h) (shc_61 hs) rfl nq_331 nq_332 nq_333 nq_5 nq_334 (by decide +kernel) rfl rfl ⟨Nat.le_of_ble_eq_true rfl, Nat.le_of_ble_eq_true rfl, Nat.le_of_ble_eq_true rfl, Nat.le_of_ble_eq_true rfl⟩ (Nat.le_of_ble_eq_true rfl) dX9_watch_3 (fun r3 σ3 h => ?_)
  refine ww_iconst (v := 4) C dX9_watch_6 (by decide) ?_
  refine ww_icmp_ne (tgt := 14) C dX9_watch_7 (by decide) (fun hc => ?_) (fun hc => ?_)
  · have h := h.1 hc
    refine ww_iconst (v := 0) C dX9_watch_14 (by decide) ?_
    exact w_X9_watch_J15 (Q := Q) (a1 := a1) (a2 := a2) (a3 := a3) C hr hlk hs h
  · have h := h.2 hc
    refine ww_iconst (v := 1) C dX9_watch_10 (by decide) ?_
    refine ww_goto (tgt := 15) C dX9_watch_11 (by decide) ?_
    exact w_X9_watch_J15 (Q := Q) (a1 := a1) (a2 := a2) (a3 := a3) C hr hlk hs h
set_option maxRecDepth 100000 in
set_option maxHeartbeats 4000000 in
theorem w_X9_watchCell_L31b {p : Program} {l : Launch} {e : Env} {s : State} {m : MethodId} {args : Array Value} {below : List Frame} {meth : Method} {c : Code} {dC : Nat → ClassId} {dI : Nat → Nat → Nat} {cA : Nat → ClassId} {A : Nat → Prop} {al : Nat → Nat} {sh : List Kd} (C : Fx p s m args c cX9_watchCell 7 yX9_watchCell.cls dC dI cA A al) (hr : meth.sig.returnType = none) (hlk : meth.locks = false) (hs : ShC sh) {a1 : Int32} {a2 : Int32} {a3 : Int32} {a4 : Int32} {a5 : Int32} {Q : St → Prop} {K73 : St → Prop} (hK73 : ∀ (σ : St), K73 σ → WW p l e (RM 3) s m args below meth c (MQ below (va_Qv Q (WPost dC dI cA al sh A) A) args s 0 0 A) dC dI cA A 7 0 0 al sh 73 [] [] σ) {Rc : St → Int32 → Prop} (hRc : ∀ (σ : St) (x6 : Int32), Rc σ x6 → WW p l e (RM 3) s m args below meth c (MQ below (va_Qv Q (WPost dC dI cA al sh A) A) args s 0 0 A) dC dI cA A 7 0 0 al sh 31 [(0, .ref 61), (1, .int a1), (2, .int a2), (3, .int a3), (4, .int a4), (5, .int a5), (6, .int x6)] [] σ) {σ : St} {x6 : Int32} (h : m_X9_watchCell_L31b a1 a2 a3 a4 a5 Q K73 Rc σ x6) : WW p l e (RM 3) s m args below meth c (MQ below (va_Qv Q (WPost dC dI cA al sh A) A) args s 0 0 A) dC dI cA A 7 0 0 al sh 31 [(0, .ref 61), (1, .int a1), (2, .int a2), (3, .int a3), (4, .int a4), (5, .int a5), (6, .int x6)] [] σ := by
  unfold m_X9_watchCell_L31b at h
  refine ww_iload C 6 rfl dX9_watchCell_31 ?_
  refine ww_iload_n C 3 rfl dX9_watchCell_33 ?_
  refine ww_icmp_ge (tgt := 73) C dX9_watchCell_34 (by decide) (fun hc => ?_) (fun hc => ?_)
  · have h := h.1 hc
    refine ww_sub [] rfl ?_
    exact hK73 _ h
  · have h := h.2 hc
    refine ww_aload_n C 0 rfl dX9_watchCell_37 ?_
    refine ww_iload_n C 1 rfl dX9_watchCell_38 ?_
    refine ww_iload C 6 rfl dX9_watchCell_39 ?_
    refine ww_iload_n C 2 rfl dX9_watchCell_41 ?_
    refine ww_vi (n := 3) (As := [.int a1, .int x6, .int a2]) (rest := []) C (c_X9_isTouchOf hs h) (shc_61 hs) rfl nq_489 nq_490 nq_491 nq_5 nq_492 (by decide +kernel) rfl rfl ⟨Nat.le_of_ble_eq_true rfl, Nat.le_of_ble_eq_true rfl, Nat.le_of_ble_eq_true rfl, Nat.le_of_ble_eq_true rfl⟩ (Nat.le_of_ble_eq_true rfl) dX9_watchCell_42 (fun r42 σ42 h => ?_)
    refine ww_if_eq (tgt := 67) C dX9_watchCell_45 (by decide) (fun hc => ?_) (fun hc => ?_)
    · have h := h.1 hc
      refine ww_iinc (v := (x6 + 1)) (lv' := [(6, .int (x6 + 1)), (0, .ref 61), (1, .int a1), (2, .int a2), (3, .int a3), (4, .int a4), (5, .int a5)]) C 6 rfl dX9_watchCell_67 rfl (by decide) rfl ?_
      refine ww_goto (tgt := 31) C dX9_watchCell_70 (by decide) ?_
      refine ww_sub [1, 2, 3, 4, 5, 6, 0] rfl ?_
      exact hRc _ _ h
    · have h := h.2 hc
      refine ww_iload C 5 rfl dX9_watchCell_48 ?_
      refine ww_iload C 6 rfl dX9_watchCell_50 ?_
      refine ww_si (n := 2) (As := [.int a5, .int x6]) (rest := []) C (c_X9_has hs h) nq_244 nq_245 nq_5 nq_246 (by decide +kernel) rfl rfl ⟨Nat.le_of_ble_eq_true rfl, Nat.le_of_ble_eq_true rfl, Nat.le_of_ble_eq_true rfl, Nat.le_of_ble_eq_true rfl⟩ (Nat.le_of_ble_eq_true rfl) dX9_watchCell_52 (fun r52 σ52 h => ?_)
      refine ww_if_ne (tgt := 67) C dX9_watchCell_55 (by decide) (fun hc => ?_) (fun hc => ?_)
      · have h := h.1 hc
        refine ww_iinc (v := (x6 + 1)) (lv' := [(6, .int (x6 + 1)), (0, .ref 61), (1, .int a1), (2, .int a2), (3, .int a3), (4, .int a4), (5, .int a5)]) C 6 rfl dX9_watchCell_67 rfl (by decide) rfl ?_
        refine ww_goto (tgt := 31) C dX9_watchCell_70 (by decide) ?_
        refine ww_sub [1, 2, 3, 4, 5, 6, 0] rfl ?_
        exact hRc _ _ h
      · have h := h.2 hc
        refine ww_aload_n C 0 rfl dX9_watchCell_58 ?_
        refine ww_iload_n C 1 rfl dX9_watchCell_59 ?_
        refine ww_iload C 6 rfl dX9_watchCell_60 ?_
        refine ww_iload C 4 rfl dX9_watchCell_62 ?_
        refine ww_vv (n := 3) (As := [.int a1, .int x6, .int a4]) (rest := []) C (c_X9_watch hs h) (shc_61 hs) rfl nq_497 nq_498 nq_499 nq_5 nq_500 (by decide +kernel) rfl rfl ⟨Nat.le_of_ble_eq_true rfl, Nat.le_of_ble_eq_true rfl, Nat.le_of_ble_eq_true rfl, Nat.le_of_ble_eq_true rfl⟩ (Nat.le_of_ble_eq_true rfl) dX9_watchCell_64 (fun σ64 h => ?_)
        refine ww_iinc (v := (x6 + 1)) (lv' := [(6, .int (x6 + 1)), (0, .ref 61), (1, .int a1), (2, .int a2), (3, .int a3), (4, .int a4), (5, .int a5)]) C 6 rfl dX9_watchCell_67 rfl (by decide) rfl ?_
        refine ww_goto (tgt := 31) C dX9_watchCell_70 (by decide) ?_
        refine ww_sub [1, 2, 3, 4, 5, 6, 0] rfl ?_
        exact hRc _ _ h
set_option maxRecDepth 100000 in
set_option maxHeartbeats 4000000 in
theorem w_X9_watchCell_L31 {p : Program} {l : Launch} {e : Env} {s : State} {m : MethodId} {args : Array Value} {below : List Frame} {meth : Method} {c : Code} {dC : Nat → ClassId} {dI : Nat → Nat → Nat} {cA : Nat → ClassId} {A : Nat → Prop} {al : Nat → Nat} {sh : List Kd} (C : Fx p s m args c cX9_watchCell 7 yX9_watchCell.cls dC dI cA A al) (hr : meth.sig.returnType = none) (hlk : meth.locks = false) (hs : ShC sh) {a1 : Int32} {a2 : Int32} {a3 : Int32} {a4 : Int32} {a5 : Int32} {Q : St → Prop} {K73 : St → Prop} (hK73 : ∀ (σ : St), K73 σ → WW p l e (RM 3) s m args below meth c (MQ below (va_Qv Q (WPost dC dI cA al sh A) A) args s 0 0 A) dC dI cA A 7 0 0 al sh 73 [] [] σ) : ∀ (f : Nat) (σ : St) (x6 : Int32), m_X9_watchCell_L31 a1 a2 a3 a4 a5 Q K73 f σ x6 → WW p l e (RM 3) s m args below meth c (MQ below (va_Qv Q (WPost dC dI cA al sh A) A) args s 0 0 A) dC dI cA A 7 0 0 al sh 31 [(0, .ref 61), (1, .int a1), (2, .int a2), (3, .int a3), (4, .int a4), (5, .int a5), (6, .int x6)] [] σ := by
  intro f
  induction f with
  | zero => intro σ x6 h; exact False.elim h
  | succ f ih => intro σ x6 h; exact w_X9_watchCell_L31b (Q := Q) (a1 := a1) (a2 := a2) (a3 := a3) (a4 := a4) (a5 := a5) C hr hlk hs hK73 ih h
set_option maxRecDepth 100000 in
set_option maxHeartbeats 4000000 in
theorem w_X9_watchCell_J73 {p : Program} {l : Launch} {e : Env} {s : State} {m : MethodId} {args : Array Value} {below : List Frame} {meth : Method} {c : Code} {dC : Nat → ClassId} {dI : Nat → Nat → Nat} {cA : Nat → ClassId} {A : Nat → Prop} {al : Nat → Nat} {sh : List Kd} (C : Fx p s m args c cX9_watchCell 7 yX9_watchCell.cls dC dI cA A al) (hr : meth.sig.returnType = none) (hlk : meth.locks = false) (hs : ShC sh) {a1 : Int32} {a2 : Int32} {a3 : Int32} {a4 : Int32} {a5 : Int32} {Q : St → Prop} {σ : St} (h : m_X9_watchCell_J73 a1 a2 a3 a4 a5 Q σ) : WW p l e (RM 3) s m args below meth c (MQ below (va_Qv Q (WPost dC dI cA al sh A) A) args s 0 0 A) dC dI cA A 7 0 0 al sh 73 [] [] σ := by
  unfold m_X9_watchCell_J73 at h
  exact ww_vret C hr hlk h dX9_watchCell_73
set_option maxRecDepth 100000 in
set_option maxHeartbeats 4000000 in
theorem c_X9_watchCell {l : Launch} {dC : Nat → ClassId} {dI : Nat → Nat → Nat} {cA : Nat → ClassId} {al : Nat → Nat} {sh : List Kd} (hs : ShC sh) {σ : St} {a1 : Int32} {a2 : Int32} {a3 : Int32} {a4 : Int32} {a5 : Int32} {Q : St → Prop} (h : m_X9_watchCell σ a1 a2 a3 a4 a5 Q) : ∀ sz, Met l yX9_watchCell (wd yX9_watchCell cX9_watchCell 7 none) (RM 3) (va_Pc ([.ref 61, .int a1, .int a2, .int a3, .int a4, .int a5].map (cv al)) (WPre dC dI cA al sh σ sz)) (va_Qv Q (WPost dC dI cA al sh (AW al sh sz)) (AW al sh sz)) 0 0 (AW al sh sz) := by
  refine ww_met (Qc := fun A => va_Qv Q (WPost dC dI cA al sh A) A) (by decide +kernel) (Nat.le_of_ble_eq_true rfl) (fun p e s m args below meth c A C hr hlk => ?_)
  show WW p l e (RM 3) s m args below meth c (MQ below (va_Qv Q (WPost dC dI cA al sh A) A) args s 0 0 A) dC dI cA A 7 0 0 al sh 0 [(0, .ref 61), (1, .int a1), (2, .int a2), (3, .int a3), (4, .int a4), (5, .int a5)] [] σ
  unfold m_X9_watchCell at h
  refine ww_aload_n C 0 rfl dX9_watchCell_0 ?_
  refine ww_iconst (v := 0) C dX9_watchCell_1 (by decide) ?_
  refine ww_putI C (shc_61 hs) rfl inG9 13 (by decide) nq_477 tyX9 tyX9_ok nmX9 rfl (by decide +kernel) rfl dX9_watchCell_2 h (fun σ2 h => ?_)
  refine ww_aload_n C 0 rfl dX9_watchCell_5 ?_
  refine ww_bipush (v := 15) C dX9_watchCell_6 (by decide) ?_
  refine ww_putI C (shc_61 hs) rfl inG9 14 (by decide) nq_478 tyX9 tyX9_ok nmX9 rfl (by decide +kernel) rfl dX9_watchCell_8 h (fun σ8 h => ?_)
  refine ww_aload_n C 0 rfl dX9_watchCell_11 ?_
  refine ww_bipush (v := -9) C dX9_watchCell_12 (by decide) ?_
  refine ww_putI C (shc_61 hs) rfl inG9 15 (by decide) nq_479 tyX9 tyX9_ok nmX9 rfl (by decide +kernel) rfl dX9_watchCell_14 h (fun σ14 h => ?_)
  refine ww_aload_n C 0 rfl dX9_watchCell_17 ?_
  refine ww_bipush (v := -9) C dX9_watchCell_18 (by decide) ?_
  refine ww_putI C (shc_61 hs) rfl inG9 16 (by decide) nq_480 tyX9 tyX9_ok nmX9 rfl (by decide +kernel) rfl dX9_watchCell_20 h (fun σ20 h => ?_)
  refine ww_aload_n C 0 rfl dX9_watchCell_23 ?_
  refine ww_iconst (v := 0) C dX9_watchCell_24 (by decide) ?_
  refine ww_putI C (shc_61 hs) rfl inG9 17 (by decide) nq_481 tyX9 tyX9_ok nmX9 rfl (by decide +kernel) rfl dX9_watchCell_25 h (fun σ25 h => ?_)
  refine ww_iconst (v := 0) C dX9_watchCell_28 (by decide) ?_
  refine ww_istore (lv' := [(6, .int 0), (0, .ref 61), (1, .int a1), (2, .int a2), (3, .int a3), (4, .int a4), (5, .int a5)]) C dX9_watchCell_29 (by decide) rfl ?_
  refine ww_sub [1, 2, 3, 4, 5, 6, 0] rfl ?_
  obtain ⟨f, h⟩ := h
  exact w_X9_watchCell_L31 (Q := Q) (a1 := a1) (a2 := a2) (a3 := a3) (a4 := a4) (a5 := a5) C hr hlk hs (fun σ h => by exact w_X9_watchCell_J73 (Q := Q) (a1 := a1) (a2 := a2) (a3 := a3) (a4 := a4) (a5 := a5) C hr hlk hs h) f _ _ h
set_option maxRecDepth 100000 in
set_option maxHeartbeats 4000000 in
theorem c_X9_isFour {l : Launch} {dC : Nat → ClassId} {dI : Nat → Nat → Nat} {cA : Nat → ClassId} {al : Nat → Nat} {sh : List Kd} (hs : ShC sh) {σ : St} {a0 : Int32} {Q : Int32 → St → Prop} (h : m_X9_isFour σ a0 Q) : ∀ sz, Met l yX9_isFour (wd yX9_isFour cX9_isFour 1 (some .boolean)) (RM 1) (va_Pc ([.int a0].map (cv al)) (WPre dC dI cA al sh σ sz)) (va_Qi Q (WPost dC dI cA al sh (AW al sh sz)) (AW al sh sz)) 0 0 (AW al sh sz) := by
  refine ww_met (Qc := fun A => va_Qi Q (WPost dC dI cA al sh A) A) (by decide +kernel) (Nat.le_of_ble_eq_true rfl) (fun p e s m args below meth c A C hr hlk => ?_)
  show WW p l e (RM 1) s m args below meth c (MQ below (va_Qi Q (WPost dC dI cA al sh A) A) args s 0 0 A) dC dI cA A 1 0 0 al sh 0 [(0, .int a0)] [] σ
  unfold m_X9_isFour at h
  refine ww_iload_n C 0 rfl dX9_isFour_0 ?_
  refine ww_i2l C dX9_isFour_1 ?_
  refine ww_lconst (v := 0) C dX9_isFour_2 (by decide) ?_
  refine ww_ldc2 (v := 3) C nq_243 dX9_isFour_3 ?_
  refine ww_si (n := 3) (As := [.long (a0.toInt64), .long 0, .long 3]) (rest := []) C (c_X9_in hs h) nq_159 nq_160 nq_5 nq_161 (by decide +kernel) rfl rfl ⟨Nat.le_of_ble_eq_true rfl, Nat.le_of_ble_eq_true rfl, Nat.le_of_ble_eq_true rfl, Nat.le_of_ble_eq_true rfl⟩ (Nat.le_of_ble_eq_true rfl) dX9_isFour_6 (fun r6 σ6 h => ?_)
  exact ww_zret C hr hlk h.1 h.2 dX9_isFour_9
set_option maxRecDepth 100000 in
set_option maxHeartbeats 4000000 in
theorem c_X9_cell {l : Launch} {dC : Nat → ClassId} {dI : Nat → Nat → Nat} {cA : Nat → ClassId} {al : Nat → Nat} {sh : List Kd} (hs : ShC sh) {σ : St} {a1 : Int32} {a2 : Int32} {a3 : Int32} {Q : Int32 → St → Prop} (h : m_X9_cell σ a1 a2 a3 Q) : ∀ sz, Met l yX9_cell (wd yX9_cell cX9_cell 4 (some .int)) (RM 4) (va_Pc ([.ref 61, .int a1, .int a2, .int a3].map (cv al)) (WPre dC dI cA al sh σ sz)) (va_Qi Q (WPost dC dI cA al sh (AW al sh sz)) (AW al sh sz)) 0 0 (AW al sh sz) := by
  refine ww_met (Qc := fun A => va_Qi Q (WPost dC dI cA al sh A) A) (by decide +kernel) (Nat.le_of_ble_eq_true rfl) (fun p e s m args below meth c A C hr hlk => ?_)
  show WW p l e (RM 4) s m args below meth c (MQ below (va_Qi Q (WPost dC dI cA al sh A) A) args s 0 0 A) dC dI cA A 4 0 0 al sh 0 [(0, .ref 61), (1, .int a1), (2, .int a2), (3, .int a3)] [] σ
  unfold m_X9_cell at h
  refine ww_iload_n C 1 rfl dX9_cell_0 ?_
  refine ww_si (n := 1) (As := [.int a1]) (rest := []) C (c_X9_isFour hs h) nq_482 nq_483 nq_5 nq_484 (by decide +kernel) rfl rfl ⟨Nat.le_of_ble_eq_true rfl, Nat.le_of_ble_eq_true rfl, Nat.le_of_ble_eq_true rfl, Nat.le_of_ble_eq_true rfl⟩ (Nat.le_of_ble_eq_true rfl) dX9_cell_1 (fun r1 σ1 h => ?_)
  refine ww_if_ne (tgt := 9) C dX9_cell_4 (by decide) (fun hc => ?_) (fun hc => ?_)
  · have h := h.1 hc
    refine ww_iload_n C 2 rfl dX9_cell_9 ?_
    refine ww_i2l C dX9_cell_10 ?_
    refine ww_lconst (v := 0) C dX9_cell_11 (by decide) ?_
    refine ww_aload_n C 0 rfl dX9_cell_12 ?_
    refine ww_iconst (v := 0) C dX9_cell_13 (by decide) ?_
    refine ww_vi (n := 1) (As := [.int 0]) (rest := [.long 0, .long (a2.toInt64)]) C (c_X9_many hs h) (shc_61 hs) rfl nq_291 nq_292 nq_293 nq_5 nq_294 (by decide +kernel) rfl rfl ⟨Nat.le_of_ble_eq_true rfl, Nat.le_of_ble_eq_true rfl, Nat.le_of_ble_eq_true rfl, Nat.le_of_ble_eq_true rfl⟩ (Nat.le_of_ble_eq_true rfl) dX9_cell_14 (fun r14 σ14 h => ?_)
    refine ww_i2l C dX9_cell_17 ?_
    refine ww_si (n := 3) (As := [.long (a2.toInt64), .long 0, .long (r14.toInt64)]) (rest := []) C (c_X9_in hs h) nq_159 nq_160 nq_5 nq_161 (by decide +kernel) rfl rfl ⟨Nat.le_of_ble_eq_true rfl, Nat.le_of_ble_eq_true rfl, Nat.le_of_ble_eq_true rfl, Nat.le_of_ble_eq_true rfl⟩ (Nat.le_of_ble_eq_true rfl) dX9_cell_18 (fun r18 σ18 h => ?_)
    refine ww_if_eq (tgt := 36) C dX9_cell_21 (by decide) (fun hc => ?_) (fun hc => ?_)
    · have h := h.1 hc
      refine ww_bipush (v := -2) C dX9_cell_36 (by decide) ?_
      exact ww_iret C hr hlk h dX9_cell_38
    · have h := h.2 hc
      refine ww_iload_n C 3 rfl dX9_cell_24 ?_
      refine ww_i2l C dX9_cell_25 ?_
      refine ww_lconst (v := 0) C dX9_cell_26 (by decide) ?_
      refine ww_ldc2 (v := 4) C nq_476 dX9_cell_27 ?_
      refine ww_si (n := 3) (As := [.long (a3.toInt64), .long 0, .long 4]) (rest := []) C (c_X9_in hs h) nq_159 nq_160 nq_5 nq_161 (by decide +kernel) rfl rfl ⟨Nat.le_of_ble_eq_true rfl, Nat.le_of_ble_eq_true rfl, Nat.le_of_ble_eq_true rfl, Nat.le_of_ble_eq_true rfl⟩ (Nat.le_of_ble_eq_true rfl) dX9_cell_30 (fun r30 σ30 h => ?_)
      refine ww_if_ne (tgt := 39) C dX9_cell_33 (by decide) (fun hc => ?_) (fun hc => ?_)
      · have h := h.1 hc
        refine ww_aload_n C 0 rfl dX9_cell_39 ?_
        refine ww_iconst (v := 0) C dX9_cell_40 (by decide) ?_
        refine ww_vv (n := 1) (As := [.int 0]) (rest := []) C (c_X9_findHeld hs h) (shc_61 hs) rfl nq_323 nq_324 nq_325 nq_5 nq_326 (by decide +kernel) rfl rfl ⟨Nat.le_of_ble_eq_true rfl, Nat.le_of_ble_eq_true rfl, Nat.le_of_ble_eq_true rfl, Nat.le_of_ble_eq_true rfl⟩ (Nat.le_of_ble_eq_true rfl) dX9_cell_41 (fun σ41 h => ?_)
        refine ww_aload_n C 0 rfl dX9_cell_44 ?_
        refine ww_iconst (v := 0) C dX9_cell_45 (by decide) ?_
        refine ww_iload_n C 1 rfl dX9_cell_46 ?_
        refine ww_iload_n C 2 rfl dX9_cell_47 ?_
        refine ww_bipush (v := 15) C dX9_cell_48 (by decide) ?_
        refine ww_iconst (v := 0) C dX9_cell_50 (by decide) ?_
        refine ww_vv (n := 5) (As := [.int 0, .int a1, .int a2, .int 15, .int 0]) (rest := []) C (c_X9_watchCell hs h) (shc_61 hs) rfl nq_485 nq_486 nq_487 nq_5 nq_488 (by decide +kernel) rfl rfl ⟨Nat.le_of_ble_eq_true rfl, Nat.le_of_ble_eq_true rfl, Nat.le_of_ble_eq_true rfl, Nat.le_of_ble_eq_true rfl⟩ (Nat.le_of_ble_eq_true rfl) dX9_cell_51 (fun σ51 h => ?_)
        refine ww_iload_n C 3 rfl dX9_cell_54 ?_
        by_cases hc0 : a3 = 0
        · refine ww_table (off := 29) (tgt := 84) C dX9_cell_55 (by rw [hc0]; decide) (by rw [hc0]; decide) (by rw [hc0]; rfl) (by decide) ?_
          have h := h.1 hc0
          refine ww_aload_n C 0 rfl dX9_cell_84 ?_
          refine ww_getI C (shc_61 hs) rfl inG9 13 (by decide) nq_477 rfl dX9_cell_85 ?_
          exact ww_iret C hr hlk h dX9_cell_88
        · skip
          by_cases hc1 : a3 = 1
          · refine ww_table (off := 34) (tgt := 89) C dX9_cell_55 (by rw [hc1]; decide) (by rw [hc1]; decide) (by rw [hc1]; rfl) (by decide) ?_
            have h := h.2.1 hc1
            refine ww_aload_n C 0 rfl dX9_cell_89 ?_
            refine ww_getI C (shc_61 hs) rfl inG9 13 (by decide) nq_477 rfl dX9_cell_90 ?_
            refine ww_iconst (v := 2) C dX9_cell_93 (by decide) ?_
            refine ww_icmp_ge (tgt := 102) C dX9_cell_94 (by decide) (fun hc => ?_) (fun hc => ?_)
            · have h := h.1 hc
              refine ww_aload_n C 0 rfl dX9_cell_102 ?_
              refine ww_getI C (shc_61 hs) rfl inG9 14 (by decide) nq_478 rfl dX9_cell_103 ?_
              exact ww_iret C hr hlk h dX9_cell_106
            · have h := h.2 hc
              refine ww_bipush (v := 15) C dX9_cell_97 (by decide) ?_
              refine ww_goto (tgt := 106) C dX9_cell_99 (by decide) ?_
              exact ww_iret C hr hlk h dX9_cell_106
          · skip
            by_cases hc2 : a3 = 2
            · refine ww_table (off := 52) (tgt := 107) C dX9_cell_55 (by rw [hc2]; decide) (by rw [hc2]; decide) (by rw [hc2]; rfl) (by decide) ?_
              have h := h.2.2.1 hc2
              refine ww_aload_n C 0 rfl dX9_cell_107 ?_
              refine ww_getI C (shc_61 hs) rfl inG9 13 (by decide) nq_477 rfl dX9_cell_108 ?_
              refine ww_iconst (v := 1) C dX9_cell_111 (by decide) ?_
              refine ww_icmp_ne (tgt := 122) C dX9_cell_112 (by decide) (fun hc => ?_) (fun hc => ?_)
              · have h := h.1 hc
                refine ww_bipush (v := -9) C dX9_cell_122 (by decide) ?_
                exact ww_iret C hr hlk h dX9_cell_124
              · have h := h.2 hc
                refine ww_aload_n C 0 rfl dX9_cell_115 ?_
                refine ww_getI C (shc_61 hs) rfl inG9 15 (by decide) nq_479 rfl dX9_cell_116 ?_
                refine ww_goto (tgt := 124) C dX9_cell_119 (by decide) ?_
                exact ww_iret C hr hlk h dX9_cell_124
            · skip
              by_cases hc3 : a3 = 3
              · refine ww_table (off := 70) (tgt := 125) C dX9_cell_55 (by rw [hc3]; decide) (by rw [hc3]; decide) (by rw [hc3]; rfl) (by decide) ?_
                have h := h.2.2.2.1 hc3
                refine ww_aload_n C 0 rfl dX9_cell_125 ?_
                refine ww_getI C (shc_61 hs) rfl inG9 16 (by decide) nq_480 rfl dX9_cell_126 ?_
                exact ww_iret C hr hlk h dX9_cell_129
              · skip
                have nhc0 := ne_toInt (n := 0) hc0
                have nhc1 := ne_toInt (n := 1) hc1
                have nhc2 := ne_toInt (n := 2) hc2
                have nhc3 := ne_toInt (n := 3) hc3
                refine ww_tableO (tgt := 130) C dX9_cell_55 (by omega) (by decide) ?_
                have h := h.2.2.2.2 ⟨hc0, hc1, hc2, hc3⟩
                refine ww_aload_n C 0 rfl dX9_cell_130 ?_
                refine ww_getI C (shc_61 hs) rfl inG9 17 (by decide) nq_481 rfl dX9_cell_131 ?_
                exact ww_iret C hr hlk h dX9_cell_134
      · have h := h.2 hc
        refine ww_bipush (v := -2) C dX9_cell_36 (by decide) ?_
        exact ww_iret C hr hlk h dX9_cell_38
  · have h := h.2 hc
    refine ww_iconst (v := -1) C dX9_cell_7 (by decide) ?_
    exact ww_iret C hr hlk h dX9_cell_8
set_option maxRecDepth 100000 in
set_option maxHeartbeats 4000000 in
theorem w_X9_flaggedOn_L5b {p : Program} {l : Launch} {e : Env} {s : State} {m : MethodId} {args : Array Value} {below : List Frame} {meth : Method} {c : Code} {dC : Nat → ClassId} {dI : Nat → Nat → Nat} {cA : Nat → ClassId} {A : Nat → Prop} {al : Nat → Nat} {sh : List Kd} (C : Fx p s m args c cX9_flaggedOn 5 yX9_flaggedOn.cls dC dI cA A al) (hr : meth.sig.returnType = some .int) (hlk : meth.locks = false) (hs : ShC sh) {a1 : Int32} {a2 : Int32} {Q : Int32 → St → Prop} {K51 : St → Int32 → Prop} (hK51 : ∀ (σ : St) (x3 : Int32), K51 σ x3 → WW p l e (RM 4) s m args below meth c (MQ below (va_Qi Q (WPost dC dI cA al sh A) A) args s 0 0 A) dC dI cA A 5 0 0 al sh 51 [(3, .int x3)] [] σ) {Rc : St → Int32 → Int32 → Prop} (hRc : ∀ (σ : St) (x3 : Int32) (x4 : Int32), Rc σ x3 x4 → WW p l e (RM 4) s m args below meth c (MQ below (va_Qi Q (WPost dC dI cA al sh A) A) args s 0 0 A) dC dI cA A 5 0 0 al sh 5 [(0, .ref 61), (1, .int a1), (2, .int a2), (3, .int x3), (4, .int x4)] [] σ) {σ : St} {x3 : Int32} {x4 : Int32} (h : m_X9_flaggedOn_L5b a1 a2 Q K51 Rc σ x3 x4) : WW p l e (RM 4) s m args below meth c (MQ below (va_Qi Q (WPost dC dI cA al sh A) A) args s 0 0 A) dC dI cA A 5 0 0 al sh 5 [(0, .ref 61), (1, .int a1), (2, .int a2), (3, .int x3), (4, .int x4)] [] σ := by
  unfold m_X9_flaggedOn_L5b at h
  refine ww_iload C 4 rfl dX9_flaggedOn_5 ?_
  refine ww_iconst (v := 4) C dX9_flaggedOn_7 (by decide) ?_
  refine ww_icmp_ge (tgt := 51) C dX9_flaggedOn_8 (by decide) (fun hc => ?_) (fun hc => ?_)
  · have h := h.1 hc
    refine ww_sub [3] rfl ?_
    exact hK51 _ _ h
  · have h := h.2 hc
    refine ww_aload_n C 0 rfl dX9_flaggedOn_11 ?_
    refine ww_iload_n C 1 rfl dX9_flaggedOn_12 ?_
    refine ww_iload C 4 rfl dX9_flaggedOn_13 ?_
    refine ww_aload_n C 0 rfl dX9_flaggedOn_15 ?_
    refine ww_iload_n C 1 rfl dX9_flaggedOn_16 ?_
    refine ww_vi (n := 1) (As := [.int a1]) (rest := [.int x4, .int a1, .ref 61]) C (c_X9_many hs h) (shc_61 hs) rfl nq_291 nq_292 nq_293 nq_5 nq_294 (by decide +kernel) rfl rfl ⟨Nat.le_of_ble_eq_true rfl, Nat.le_of_ble_eq_true rfl, Nat.le_of_ble_eq_true rfl, Nat.le_of_ble_eq_true rfl⟩ (Nat.le_of_ble_eq_true rfl) dX9_flaggedOn_17 (fun r17 σ17 h => ?_)
    refine ww_iload_n C 2 rfl dX9_flaggedOn_20 ?_
    refine ww_iconst (v := 0) C dX9_flaggedOn_21 (by decide) ?_
    refine ww_vv (n := 5) (As := [.int a1, .int x4, .int r17, .int a2, .int 0]) (rest := []) C (c_X9_watchCell hs h) (shc_61 hs) rfl nq_485 nq_486 nq_487 nq_5 nq_488 (by decide +kernel) rfl rfl ⟨Nat.le_of_ble_eq_true rfl, Nat.le_of_ble_eq_true rfl, Nat.le_of_ble_eq_true rfl, Nat.le_of_ble_eq_true rfl⟩ (Nat.le_of_ble_eq_true rfl) dX9_flaggedOn_22 (fun σ22 h => ?_)
    refine ww_iload_n C 3 rfl dX9_flaggedOn_25 ?_
    refine ww_aload_n C 0 rfl dX9_flaggedOn_26 ?_
    refine ww_getI C (shc_61 hs) rfl inG9 16 (by decide) nq_480 rfl dX9_flaggedOn_27 ?_
    refine ww_bipush (v := -9) C dX9_flaggedOn_30 (by decide) ?_
    refine ww_icmp_ne (tgt := 39) C dX9_flaggedOn_32 (by decide) (fun hc => ?_) (fun hc => ?_)
    · have h := h.1 hc
      refine ww_iconst (v := 1) C dX9_flaggedOn_39 (by decide) ?_
      refine ww_iload C 4 rfl dX9_flaggedOn_40 ?_
      refine ww_ishl C dX9_flaggedOn_42 ?_
      refine ww_ior C dX9_flaggedOn_43 ?_
      refine ww_nmI h (fun y44 h => ?_)
      refine ww_istore_n (lv' := [(3, .int y44), (0, .ref 61), (1, .int a1), (2, .int a2), (4, .int x4)]) C dX9_flaggedOn_44 rfl (by decide) rfl ?_
      refine ww_iinc (v := (x4 + 1)) (lv' := [(4, .int (x4 + 1)), (3, .int y44), (0, .ref 61), (1, .int a1), (2, .int a2)]) C 4 rfl dX9_flaggedOn_45 rfl (by decide) rfl ?_
      refine ww_goto (tgt := 5) C dX9_flaggedOn_48 (by decide) ?_
      refine ww_sub [2, 3, 4, 1, 0] rfl ?_
      exact hRc _ _ _ h
    · have h := h.2 hc
      refine ww_iconst (v := 0) C dX9_flaggedOn_35 (by decide) ?_
      refine ww_goto (tgt := 43) C dX9_flaggedOn_36 (by decide) ?_
      refine ww_ior C dX9_flaggedOn_43 ?_
      refine ww_nmI h (fun y44 h => ?_)
      refine ww_istore_n (lv' := [(3, .int y44), (0, .ref 61), (1, .int a1), (2, .int a2), (4, .int x4)]) C dX9_flaggedOn_44 rfl (by decide) rfl ?_
      refine ww_iinc (v := (x4 + 1)) (lv' := [(4, .int (x4 + 1)), (3, .int y44), (0, .ref 61), (1, .int a1), (2, .int a2)]) C 4 rfl dX9_flaggedOn_45 rfl (by decide) rfl ?_
      refine ww_goto (tgt := 5) C dX9_flaggedOn_48 (by decide) ?_
      refine ww_sub [2, 3, 4, 1, 0] rfl ?_
      exact hRc _ _ _ h
set_option maxRecDepth 100000 in
set_option maxHeartbeats 4000000 in
theorem w_X9_flaggedOn_L5 {p : Program} {l : Launch} {e : Env} {s : State} {m : MethodId} {args : Array Value} {below : List Frame} {meth : Method} {c : Code} {dC : Nat → ClassId} {dI : Nat → Nat → Nat} {cA : Nat → ClassId} {A : Nat → Prop} {al : Nat → Nat} {sh : List Kd} (C : Fx p s m args c cX9_flaggedOn 5 yX9_flaggedOn.cls dC dI cA A al) (hr : meth.sig.returnType = some .int) (hlk : meth.locks = false) (hs : ShC sh) {a1 : Int32} {a2 : Int32} {Q : Int32 → St → Prop} {K51 : St → Int32 → Prop} (hK51 : ∀ (σ : St) (x3 : Int32), K51 σ x3 → WW p l e (RM 4) s m args below meth c (MQ below (va_Qi Q (WPost dC dI cA al sh A) A) args s 0 0 A) dC dI cA A 5 0 0 al sh 51 [(3, .int x3)] [] σ) : ∀ (f : Nat) (σ : St) (x3 : Int32) (x4 : Int32), m_X9_flaggedOn_L5 a1 a2 Q K51 f σ x3 x4 → WW p l e (RM 4) s m args below meth c (MQ below (va_Qi Q (WPost dC dI cA al sh A) A) args s 0 0 A) dC dI cA A 5 0 0 al sh 5 [(0, .ref 61), (1, .int a1), (2, .int a2), (3, .int x3), (4, .int x4)] [] σ := by
  intro f
  induction f with
  | zero => intro σ x3 x4 h; exact False.elim h
  | succ f ih => intro σ x3 x4 h; exact w_X9_flaggedOn_L5b (Q := Q) (a1 := a1) (a2 := a2) C hr hlk hs hK51 ih h
set_option maxRecDepth 100000 in
set_option maxHeartbeats 4000000 in
theorem w_X9_flaggedOn_J51 {p : Program} {l : Launch} {e : Env} {s : State} {m : MethodId} {args : Array Value} {below : List Frame} {meth : Method} {c : Code} {dC : Nat → ClassId} {dI : Nat → Nat → Nat} {cA : Nat → ClassId} {A : Nat → Prop} {al : Nat → Nat} {sh : List Kd} (C : Fx p s m args c cX9_flaggedOn 5 yX9_flaggedOn.cls dC dI cA A al) (hr : meth.sig.returnType = some .int) (hlk : meth.locks = false) (hs : ShC sh) {a1 : Int32} {a2 : Int32} {Q : Int32 → St → Prop} {σ : St} {x3 : Int32} (h : m_X9_flaggedOn_J51 a1 a2 Q σ x3) : WW p l e (RM 4) s m args below meth c (MQ below (va_Qi Q (WPost dC dI cA al sh A) A) args s 0 0 A) dC dI cA A 5 0 0 al sh 51 [(3, .int x3)] [] σ := by
  unfold m_X9_flaggedOn_J51 at h
  refine ww_iload_n C 0 rfl dX9_flaggedOn_51 ?_
  exact ww_iret C hr hlk h dX9_flaggedOn_52
set_option maxRecDepth 100000 in
set_option maxHeartbeats 4000000 in
theorem c_X9_flaggedOn {l : Launch} {dC : Nat → ClassId} {dI : Nat → Nat → Nat} {cA : Nat → ClassId} {al : Nat → Nat} {sh : List Kd} (hs : ShC sh) {σ : St} {a1 : Int32} {a2 : Int32} {Q : Int32 → St → Prop} (h : m_X9_flaggedOn σ a1 a2 Q) : ∀ sz, Met l yX9_flaggedOn (wd yX9_flaggedOn cX9_flaggedOn 5 (some .int)) (RM 4) (va_Pc ([.ref 61, .int a1, .int a2].map (cv al)) (WPre dC dI cA al sh σ sz)) (va_Qi Q (WPost dC dI cA al sh (AW al sh sz)) (AW al sh sz)) 0 0 (AW al sh sz) := by
  refine ww_met (Qc := fun A => va_Qi Q (WPost dC dI cA al sh A) A) (by decide +kernel) (Nat.le_of_ble_eq_true rfl) (fun p e s m args below meth c A C hr hlk => ?_)
  show WW p l e (RM 4) s m args below meth c (MQ below (va_Qi Q (WPost dC dI cA al sh A) A) args s 0 0 A) dC dI cA A 5 0 0 al sh 0 [(0, .ref 61), (1, .int a1), (2, .int a2)] [] σ
  unfold m_X9_flaggedOn at h
  refine ww_iconst (v := 0) C dX9_flaggedOn_0 (by decide) ?_
  refine ww_istore_n (lv' := [(3, .int 0), (0, .ref 61), (1, .int a1), (2, .int a2)]) C dX9_flaggedOn_1 rfl (by decide) rfl ?_
  refine ww_iconst (v := 0) C dX9_flaggedOn_2 (by decide) ?_
  refine ww_istore (lv' := [(4, .int 0), (3, .int 0), (0, .ref 61), (1, .int a1), (2, .int a2)]) C dX9_flaggedOn_3 (by decide) rfl ?_
  refine ww_sub [2, 3, 4, 1, 0] rfl ?_
  obtain ⟨f, h⟩ := h
  exact w_X9_flaggedOn_L5 (Q := Q) (a1 := a1) (a2 := a2) C hr hlk hs (fun σ x3 h => by exact w_X9_flaggedOn_J51 (Q := Q) (a1 := a1) (a2 := a2) C hr hlk hs h) f _ _ _ h
set_option maxRecDepth 100000 in
set_option maxHeartbeats 4000000 in
theorem w_X9_allBefore_L6b {p : Program} {l : Launch} {e : Env} {s : State} {m : MethodId} {args : Array Value} {below : List Frame} {meth : Method} {c : Code} {dC : Nat → ClassId} {dI : Nat → Nat → Nat} {cA : Nat → ClassId} {A : Nat → Prop} {al : Nat → Nat} {sh : List Kd} (C : Fx p s m args c cX9_allBefore 6 yX9_allBefore.cls dC dI cA A al) (hr : meth.sig.returnType = some .int) (hlk : meth.locks = false) (hs : ShC sh) {a1 : Int32} {a2 : Int32} {a3 : Int32} {Q : Int32 → St → Prop} {K50 : St → Int32 → Prop} (hK50 : ∀ (σ : St) (x4 : Int32), K50 σ x4 → WW p l e (RM 1) s m args below meth c (MQ below (va_Qi Q (WPost dC dI cA al sh A) A) args s 0 0 A) dC dI cA A 6 0 0 al sh 50 [(4, .int x4)] [] σ) {Rc : St → Int32 → Int32 → Prop} (hRc : ∀ (σ : St) (x4 : Int32) (x5 : Int32), Rc σ x4 x5 → WW p l e (RM 1) s m args below meth c (MQ below (va_Qi Q (WPost dC dI cA al sh A) A) args s 0 0 A) dC dI cA A 6 0 0 al sh 6 [(0, .ref 61), (1, .int a1), (2, .int a2), (3, .int a3), (4, .int x4), (5, .int x5)] [] σ) {σ : St} {x4 : Int32} {x5 : Int32} (h : m_X9_allBefore_L6b a1 a2 a3 Q K50 Rc σ x4 x5) : WW p l e (RM 1) s m args below meth c (MQ below (va_Qi Q (WPost dC dI cA al sh A) A) args s 0 0 A) dC dI cA A 6 0 0 al sh 6 [(0, .ref 61), (1, .int a1), (2, .int a2), (3, .int a3), (4, .int x4), (5, .int x5)] [] σ := by
  unfold m_X9_allBefore_L6b at h
  refine ww_iload C 5 rfl dX9_allBefore_6 ?_
  refine ww_iload_n C 3 rfl dX9_allBefore_8 ?_
  refine ww_icmp_ge (tgt := 50) C dX9_allBefore_9 (by decide) (fun hc => ?_) (fun hc => ?_)
  · have h := h.1 hc
    refine ww_sub [4] rfl ?_
    exact hK50 _ _ h
  · have h := h.2 hc
    refine ww_iload C 4 rfl dX9_allBefore_12 ?_
    refine ww_aload_n C 0 rfl dX9_allBefore_14 ?_
    refine ww_iload_n C 1 rfl dX9_allBefore_15 ?_
    refine ww_iload C 5 rfl dX9_allBefore_16 ?_
    refine ww_vi (n := 2) (As := [.int a1, .int x5]) (rest := [.int x4]) C (c_X9_threadAt hs h) (shc_61 hs) rfl nq_327 nq_328 nq_329 nq_5 nq_330 (by decide +kernel) rfl rfl ⟨Nat.le_of_ble_eq_true rfl, Nat.le_of_ble_eq_true rfl, Nat.le_of_ble_eq_true rfl, Nat.le_of_ble_eq_true rfl⟩ (Nat.le_of_ble_eq_true rfl) dX9_allBefore_18 (fun r18 σ18 h => ?_)
    refine ww_iload_n C 2 rfl dX9_allBefore_21 ?_
    refine ww_icmp_ne (tgt := 40) C dX9_allBefore_22 (by decide) (fun hc => ?_) (fun hc => ?_)
    · have h := h.1 hc
      refine ww_iconst (v := 0) C dX9_allBefore_40 (by decide) ?_
      refine ww_ior C dX9_allBefore_41 ?_
      refine ww_nmI h (fun y42 h => ?_)
      refine ww_istore (lv' := [(4, .int y42), (0, .ref 61), (1, .int a1), (2, .int a2), (3, .int a3), (5, .int x5)]) C dX9_allBefore_42 (by decide) rfl ?_
      refine ww_iinc (v := (x5 + 1)) (lv' := [(5, .int (x5 + 1)), (4, .int y42), (0, .ref 61), (1, .int a1), (2, .int a2), (3, .int a3)]) C 5 rfl dX9_allBefore_44 rfl (by decide) rfl ?_
      refine ww_goto (tgt := 6) C dX9_allBefore_47 (by decide) ?_
      refine ww_sub [2, 3, 4, 5, 1, 0] rfl ?_
      exact hRc _ _ _ h
    · have h := h.2 hc
      refine ww_iconst (v := 1) C dX9_allBefore_25 (by decide) ?_
      refine ww_iload C 5 rfl dX9_allBefore_26 ?_
      refine ww_ishl C dX9_allBefore_28 ?_
      refine ww_aload_n C 0 rfl dX9_allBefore_29 ?_
      refine ww_getR C (shc_61 hs) rfl inG9 18 (by decide) nq_129 rfl dX9_allBefore_30 ?_
      refine ww_iload C 5 rfl dX9_allBefore_33 ?_
      refine ww_iald C (shc_70 hs) h.1 dX9_allBefore_35 ?_
      have h := h.2
      refine ww_ior C dX9_allBefore_36 ?_
      refine ww_goto (tgt := 41) C dX9_allBefore_37 (by decide) ?_
      refine ww_ior C dX9_allBefore_41 ?_
      refine ww_nmI h (fun y42 h => ?_)
      refine ww_istore (lv' := [(4, .int y42), (0, .ref 61), (1, .int a1), (2, .int a2), (3, .int a3), (5, .int x5)]) C dX9_allBefore_42 (by decide) rfl ?_
      refine ww_iinc (v := (x5 + 1)) (lv' := [(5, .int (x5 + 1)), (4, .int y42), (0, .ref 61), (1, .int a1), (2, .int a2), (3, .int a3)]) C 5 rfl dX9_allBefore_44 rfl (by decide) rfl ?_
      refine ww_goto (tgt := 6) C dX9_allBefore_47 (by decide) ?_
      refine ww_sub [2, 3, 4, 5, 1, 0] rfl ?_
      exact hRc _ _ _ h
set_option maxRecDepth 100000 in
set_option maxHeartbeats 4000000 in
theorem w_X9_allBefore_L6 {p : Program} {l : Launch} {e : Env} {s : State} {m : MethodId} {args : Array Value} {below : List Frame} {meth : Method} {c : Code} {dC : Nat → ClassId} {dI : Nat → Nat → Nat} {cA : Nat → ClassId} {A : Nat → Prop} {al : Nat → Nat} {sh : List Kd} (C : Fx p s m args c cX9_allBefore 6 yX9_allBefore.cls dC dI cA A al) (hr : meth.sig.returnType = some .int) (hlk : meth.locks = false) (hs : ShC sh) {a1 : Int32} {a2 : Int32} {a3 : Int32} {Q : Int32 → St → Prop} {K50 : St → Int32 → Prop} (hK50 : ∀ (σ : St) (x4 : Int32), K50 σ x4 → WW p l e (RM 1) s m args below meth c (MQ below (va_Qi Q (WPost dC dI cA al sh A) A) args s 0 0 A) dC dI cA A 6 0 0 al sh 50 [(4, .int x4)] [] σ) : ∀ (f : Nat) (σ : St) (x4 : Int32) (x5 : Int32), m_X9_allBefore_L6 a1 a2 a3 Q K50 f σ x4 x5 → WW p l e (RM 1) s m args below meth c (MQ below (va_Qi Q (WPost dC dI cA al sh A) A) args s 0 0 A) dC dI cA A 6 0 0 al sh 6 [(0, .ref 61), (1, .int a1), (2, .int a2), (3, .int a3), (4, .int x4), (5, .int x5)] [] σ := by
  intro f
  induction f with
  | zero => intro σ x4 x5 h; exact False.elim h
  | succ f ih => intro σ x4 x5 h; exact w_X9_allBefore_L6b (Q := Q) (a1 := a1) (a2 := a2) (a3 := a3) C hr hlk hs hK50 ih h
set_option maxRecDepth 100000 in
set_option maxHeartbeats 4000000 in
theorem w_X9_allBefore_J50 {p : Program} {l : Launch} {e : Env} {s : State} {m : MethodId} {args : Array Value} {below : List Frame} {meth : Method} {c : Code} {dC : Nat → ClassId} {dI : Nat → Nat → Nat} {cA : Nat → ClassId} {A : Nat → Prop} {al : Nat → Nat} {sh : List Kd} (C : Fx p s m args c cX9_allBefore 6 yX9_allBefore.cls dC dI cA A al) (hr : meth.sig.returnType = some .int) (hlk : meth.locks = false) (hs : ShC sh) {a1 : Int32} {a2 : Int32} {a3 : Int32} {Q : Int32 → St → Prop} {σ : St} {x4 : Int32} (h : m_X9_allBefore_J50 a1 a2 a3 Q σ x4) : WW p l e (RM 1) s m args below meth c (MQ below (va_Qi Q (WPost dC dI cA al sh A) A) args s 0 0 A) dC dI cA A 6 0 0 al sh 50 [(4, .int x4)] [] σ := by
  unfold m_X9_allBefore_J50 at h
  refine ww_iload C 0 rfl dX9_allBefore_50 ?_
  exact ww_iret C hr hlk h dX9_allBefore_52
set_option maxRecDepth 100000 in
set_option maxHeartbeats 4000000 in
theorem c_X9_allBefore {l : Launch} {dC : Nat → ClassId} {dI : Nat → Nat → Nat} {cA : Nat → ClassId} {al : Nat → Nat} {sh : List Kd} (hs : ShC sh) {σ : St} {a1 : Int32} {a2 : Int32} {a3 : Int32} {Q : Int32 → St → Prop} (h : m_X9_allBefore σ a1 a2 a3 Q) : ∀ sz, Met l yX9_allBefore (wd yX9_allBefore cX9_allBefore 6 (some .int)) (RM 1) (va_Pc ([.ref 61, .int a1, .int a2, .int a3].map (cv al)) (WPre dC dI cA al sh σ sz)) (va_Qi Q (WPost dC dI cA al sh (AW al sh sz)) (AW al sh sz)) 0 0 (AW al sh sz) := by
  refine ww_met (Qc := fun A => va_Qi Q (WPost dC dI cA al sh A) A) (by decide +kernel) (Nat.le_of_ble_eq_true rfl) (fun p e s m args below meth c A C hr hlk => ?_)
  show WW p l e (RM 1) s m args below meth c (MQ below (va_Qi Q (WPost dC dI cA al sh A) A) args s 0 0 A) dC dI cA A 6 0 0 al sh 0 [(0, .ref 61), (1, .int a1), (2, .int a2), (3, .int a3)] [] σ
  unfold m_X9_allBefore at h
  refine ww_iconst (v := 0) C dX9_allBefore_0 (by decide) ?_
  refine ww_istore (lv' := [(4, .int 0), (0, .ref 61), (1, .int a1), (2, .int a2), (3, .int a3)]) C dX9_allBefore_1 (by decide) rfl ?_
  refine ww_iconst (v := 0) C dX9_allBefore_3 (by decide) ?_
  refine ww_istore (lv' := [(5, .int 0), (4, .int 0), (0, .ref 61), (1, .int a1), (2, .int a2), (3, .int a3)]) C dX9_allBefore_4 (by decide) rfl ?_
  refine ww_sub [2, 3, 4, 5, 1, 0] rfl ?_
  obtain ⟨f, h⟩ := h
  exact w_X9_allBefore_L6 (Q := Q) (a1 := a1) (a2 := a2) (a3 := a3) C hr hlk hs (fun σ x4 h => by exact w_X9_allBefore_J50 (Q := Q) (a1 := a1) (a2 := a2) (a3 := a3) C hr hlk hs h) f _ _ _ h
set_option maxRecDepth 100000 in
set_option maxHeartbeats 4000000 in
theorem w_X9_findBefore_J67 {p : Program} {l : Launch} {e : Env} {s : State} {m : MethodId} {args : Array Value} {below : List Frame} {meth : Method} {c : Code} {dC : Nat → ClassId} {dI : Nat → Nat → Nat} {cA : Nat → ClassId} {A : Nat → Prop} {al : Nat → Nat} {sh : List Kd} (C : Fx p s m args c cX9_findBefore 6 yX9_findBefore.cls dC dI cA A al) (hr : meth.sig.returnType = none) (hlk : meth.locks = false) (hs : ShC sh) {a1 : Int32} {Q : St → Prop} {x2 : Int32} {x3 : Int32} {K105 : St → Prop} (hK105 : ∀ (σ : St), K105 σ → WW p l e (RM 2) s m args below meth c (MQ below (va_Qv Q (WPost dC dI cA al sh A) A) args s 0 0 A) dC dI cA A 6 0 0 al sh 105 [(0, .ref 61), (1, .int a1), (2, .int x2)] [] σ) {Rc : St → Int32 → Prop} (hRc : ∀ (σ : St) (x4 : Int32), Rc σ x4 → WW p l e (RM 2) s m args below meth c (MQ below (va_Qv Q (WPost dC dI cA al sh A) A) args s 0 0 A) dC dI cA A 6 0 0 al sh 34 [(0, .ref 61), (1, .int a1), (2, .int x2), (3, .int x3), (4, .int x4)] [] σ) {σ : St} {x4 : Int32} {t0 : Int32} (h : m_X9_findBefore_J67 a1 Q x2 x3 K105 Rc σ x4 t0) : WW p l e (RM 2) s m args below meth c (MQ below (va_Qv Q (WPost dC dI cA al sh A) A) args s 0 0 A) dC dI cA A 6 0 0 al sh 67 [(0, .ref 61), (1, .int a1), (2, .int x2), (3, .int x3), (4, .int x4)] [.int t0] σ := by
  unfold m_X9_findBefore_J67 at h
  refine ww_istore (lv' := [(5, .int t0), (0, .ref 61), (1, .int a1), (2, .int x2), (3, .int x3), (4, .int x4)]) C dX9_findBefore_67 (by decide) rfl ?_
  refine ww_aload_n C 1 rfl dX9_findBefore_69 ?_
  refine ww_getR C (shc_61 hs) rfl inG9 18 (by decide) nq_129 rfl dX9_findBefore_70 ?_
  refine ww_iload_n C 3 rfl dX9_findBefore_73 ?_
  refine ww_dup2 C rfl rfl dX9_findBefore_74 ?_
  refine ww_iald C (shc_70 hs) h.1 dX9_findBefore_75 ?_
  have h := h.2
  refine ww_iload C 0 rfl dX9_findBefore_76 ?_
  refine ww_if_eq (tgt := 96) C dX9_findBefore_78 (by decide) (fun hc => ?_) (fun hc => ?_)
  · have h := h.1 hc
    refine ww_iconst (v := 0) C dX9_findBefore_96 (by decide) ?_
    refine ww_ior C dX9_findBefore_97 ?_
    refine ww_iast C (shc_70 hs) h.1 dX9_findBefore_98 h.2 (fun σ98 h => ?_)
    refine ww_iinc (v := (x4 + 1)) (lv' := [(4, .int (x4 + 1)), (5, .int t0), (0, .ref 61), (1, .int a1), (2, .int x2), (3, .int x3)]) C 5 rfl dX9_findBefore_99 rfl (by decide) rfl ?_
    refine ww_goto (tgt := 34) C dX9_findBefore_102 (by decide) ?_
    refine ww_sub [2, 3, 4, 5, 0] rfl ?_
    exact hRc _ _ h
  · have h := h.2 hc
    refine ww_iconst (v := 1) C dX9_findBefore_81 (by decide) ?_
    refine ww_iload C 5 rfl dX9_findBefore_82 ?_
    refine ww_ishl C dX9_findBefore_84 ?_
    refine ww_aload_n C 1 rfl dX9_findBefore_85 ?_
    refine ww_getR C (shc_61 hs) rfl inG9 18 (by decide) nq_129 rfl dX9_findBefore_86 ?_
    refine ww_iload C 5 rfl dX9_findBefore_89 ?_
    refine ww_iald C (shc_70 hs) h.1 dX9_findBefore_91 ?_
    have h := h.2
    refine ww_ior C dX9_findBefore_92 ?_
    refine ww_goto (tgt := 97) C dX9_findBefore_93 (by decide) ?_
    refine ww_ior C dX9_findBefore_97 ?_
    refine ww_iast C (shc_70 hs) h.1 dX9_findBefore_98 h.2 (fun σ98 h => ?_)
    refine ww_iinc (v := (x4 + 1)) (lv' := [(4, .int (x4 + 1)), (5, .int t0), (0, .ref 61), (1, .int a1), (2, .int x2), (3, .int x3)]) C 5 rfl dX9_findBefore_99 rfl (by decide) rfl ?_
    refine ww_goto (tgt := 34) C dX9_findBefore_102 (by decide) ?_
    refine ww_sub [2, 3, 4, 5, 0] rfl ?_
    exact hRc _ _ h
set_option maxRecDepth 100000 in
set_option maxHeartbeats 4000000 in
theorem w_X9_findBefore_J66 {p : Program} {l : Launch} {e : Env} {s : State} {m : MethodId} {args : Array Value} {below : List Frame} {meth : Method} {c : Code} {dC : Nat → ClassId} {dI : Nat → Nat → Nat} {cA : Nat → ClassId} {A : Nat → Prop} {al : Nat → Nat} {sh : List Kd} (C : Fx p s m args c cX9_findBefore 6 yX9_findBefore.cls dC dI cA A al) (hr : meth.sig.returnType = none) (hlk : meth.locks = false) (hs : ShC sh) {a1 : Int32} {Q : St → Prop} {x2 : Int32} {x3 : Int32} {K105 : St → Prop} (hK105 : ∀ (σ : St), K105 σ → WW p l e (RM 2) s m args below meth c (MQ below (va_Qv Q (WPost dC dI cA al sh A) A) args s 0 0 A) dC dI cA A 6 0 0 al sh 105 [(0, .ref 61), (1, .int a1), (2, .int x2)] [] σ) {Rc : St → Int32 → Prop} (hRc : ∀ (σ : St) (x4 : Int32), Rc σ x4 → WW p l e (RM 2) s m args below meth c (MQ below (va_Qv Q (WPost dC dI cA al sh A) A) args s 0 0 A) dC dI cA A 6 0 0 al sh 34 [(0, .ref 61), (1, .int a1), (2, .int x2), (3, .int x3), (4, .int x4)] [] σ) {σ : St} {x4 : Int32} (h : m_X9_findBefore_J66 a1 Q x2 x3 K105 Rc σ x4) : WW p l e (RM 2) s m args below meth c (MQ below (va_Qv Q (WPost dC dI cA al sh A) A) args s 0 0 A) dC dI cA A 6 0 0 al sh 66 [(0, .ref 61), (1, .int a1), (2, .int x2), (3, .int x3), (4, .int x4)] [] σ := by
  unfold m_X9_findBefore_J66 at h
  refine ww_iconst (v := 0) C dX9_findBefore_66 (by decide) ?_
  exact w_X9_findBefore_J67 (Q := Q) (a1 := a1) C hr hlk hs hK105 hRc h
set_option maxRecDepth 100000 in
set_option maxHeartbeats 4000000 in
theorem w_X9_findBefore_L34b {p : Program} {l : Launch} {e : Env} {s : State} {m : MethodId} {args : Array Value} {below : List Frame} {meth : Method} {c : Code} {dC : Nat → ClassId} {dI : Nat → Nat → Nat} {cA : Nat → ClassId} {A : Nat → Prop} {al : Nat → Nat} {sh : List Kd} (C : Fx p s m args c cX9_findBefore 6 yX9_findBefore.cls dC dI cA A al) (hr : meth.sig.returnType = none) (hlk : meth.locks = false) (hs : ShC sh) {a1 : Int32} {Q : St → Prop} {x2 : Int32} {x3 : Int32} {K105 : St → Prop} (hK105 : ∀ (σ : St), K105 σ → WW p l e (RM 2) s m args below meth c (MQ below (va_Qv Q (WPost dC dI cA al sh A) A) args s 0 0 A) dC dI cA A 6 0 0 al sh 105 [(0, .ref 61), (1, .int a1), (2, .int x2)] [] σ) {Rc : St → Int32 → Prop} (hRc : ∀ (σ : St) (x4 : Int32), Rc σ x4 → WW p l e (RM 2) s m args below meth c (MQ below (va_Qv Q (WPost dC dI cA al sh A) A) args s 0 0 A) dC dI cA A 6 0 0 al sh 34 [(0, .ref 61), (1, .int a1), (2, .int x2), (3, .int x3), (4, .int x4)] [] σ) {σ : St} {x4 : Int32} (h : m_X9_findBefore_L34b a1 Q x2 x3 K105 Rc σ x4) : WW p l e (RM 2) s m args below meth c (MQ below (va_Qv Q (WPost dC dI cA al sh A) A) args s 0 0 A) dC dI cA A 6 0 0 al sh 34 [(0, .ref 61), (1, .int a1), (2, .int x2), (3, .int x3), (4, .int x4)] [] σ := by
  unfold m_X9_findBefore_L34b at h
  refine ww_iload C 4 rfl dX9_findBefore_34 ?_
  refine ww_iload_n C 2 rfl dX9_findBefore_36 ?_
  refine ww_icmp_ge (tgt := 105) C dX9_findBefore_37 (by decide) (fun hc => ?_) (fun hc => ?_)
  · have h := h.1 hc
    refine ww_sub [0, 1, 2] rfl ?_
    exact hK105 _ h
  · have h := h.2 hc
    refine ww_aload_n C 0 rfl dX9_findBefore_40 ?_
    refine ww_iload_n C 1 rfl dX9_findBefore_41 ?_
    refine ww_iload C 4 rfl dX9_findBefore_42 ?_
    refine ww_vi (n := 2) (As := [.int a1, .int x4]) (rest := []) C (c_X9_signAt hs h) (shc_61 hs) rfl nq_331 nq_332 nq_333 nq_5 nq_334 (by decide +kernel) rfl rfl ⟨Nat.le_of_ble_eq_true rfl, Nat.le_of_ble_eq_true rfl, Nat.le_of_ble_eq_true rfl, Nat.le_of_ble_eq_true rfl⟩ (Nat.le_of_ble_eq_true rfl) dX9_findBefore_44 (fun r44 σ44 h => ?_)
    refine ww_iconst (v := 5) C dX9_findBefore_47 (by decide) ?_
    refine ww_icmp_ne (tgt := 66) C dX9_findBefore_48 (by decide) (fun hc => ?_) (fun hc => ?_)
    · have h := h.1 hc
      exact w_X9_findBefore_J66 (Q := Q) (a1 := a1) C hr hlk hs hK105 hRc h
    · have h := h.2 hc
      refine ww_aload_n C 0 rfl dX9_findBefore_51 ?_
      refine ww_iload_n C 1 rfl dX9_findBefore_52 ?_
      refine ww_iload C 4 rfl dX9_findBefore_53 ?_
      refine ww_vi (n := 2) (As := [.int a1, .int x4]) (rest := []) C (c_X9_aboutAt hs h) (shc_61 hs) rfl nq_335 nq_336 nq_337 nq_5 nq_338 (by decide +kernel) rfl rfl ⟨Nat.le_of_ble_eq_true rfl, Nat.le_of_ble_eq_true rfl, Nat.le_of_ble_eq_true rfl, Nat.le_of_ble_eq_true rfl⟩ (Nat.le_of_ble_eq_true rfl) dX9_findBefore_55 (fun r55 σ55 h => ?_)
      refine ww_iload_n C 3 rfl dX9_findBefore_58 ?_
      refine ww_icmp_ne (tgt := 66) C dX9_findBefore_59 (by decide) (fun hc => ?_) (fun hc => ?_)
      · have h := h.1 hc
        exact w_X9_findBefore_J66 (Q := Q) (a1 := a1) C hr hlk hs hK105 hRc h
      · have h := h.2 hc
        refine ww_iconst (v := 1) C dX9_findBefore_62 (by decide) ?_
        refine ww_goto (tgt := 67) C dX9_findBefore_63 (by decide) ?_
        exact w_X9_findBefore_J67 (Q := Q) (a1 := a1) C hr hlk hs hK105 hRc h
set_option maxRecDepth 100000 in
set_option maxHeartbeats 4000000 in
theorem w_X9_findBefore_L34 {p : Program} {l : Launch} {e : Env} {s : State} {m : MethodId} {args : Array Value} {below : List Frame} {meth : Method} {c : Code} {dC : Nat → ClassId} {dI : Nat → Nat → Nat} {cA : Nat → ClassId} {A : Nat → Prop} {al : Nat → Nat} {sh : List Kd} (C : Fx p s m args c cX9_findBefore 6 yX9_findBefore.cls dC dI cA A al) (hr : meth.sig.returnType = none) (hlk : meth.locks = false) (hs : ShC sh) {a1 : Int32} {Q : St → Prop} {x2 : Int32} {x3 : Int32} {K105 : St → Prop} (hK105 : ∀ (σ : St), K105 σ → WW p l e (RM 2) s m args below meth c (MQ below (va_Qv Q (WPost dC dI cA al sh A) A) args s 0 0 A) dC dI cA A 6 0 0 al sh 105 [(0, .ref 61), (1, .int a1), (2, .int x2)] [] σ) : ∀ (f : Nat) (σ : St) (x4 : Int32), m_X9_findBefore_L34 a1 Q x2 x3 K105 f σ x4 → WW p l e (RM 2) s m args below meth c (MQ below (va_Qv Q (WPost dC dI cA al sh A) A) args s 0 0 A) dC dI cA A 6 0 0 al sh 34 [(0, .ref 61), (1, .int a1), (2, .int x2), (3, .int x3), (4, .int x4)] [] σ := by
  intro f
  induction f with
  | zero => intro σ x4 h; exact False.elim h
  | succ f ih => intro σ x4 h; exact w_X9_findBefore_L34b (Q := Q) (a1 := a1) C hr hlk hs hK105 ih h
set_option maxRecDepth 100000 in
set_option maxHeartbeats 4000000 in
theorem w_X9_findBefore_J105 {p : Program} {l : Launch} {e : Env} {s : State} {m : MethodId} {args : Array Value} {below : List Frame} {meth : Method} {c : Code} {dC : Nat → ClassId} {dI : Nat → Nat → Nat} {cA : Nat → ClassId} {A : Nat → Prop} {al : Nat → Nat} {sh : List Kd} (C : Fx p s m args c cX9_findBefore 6 yX9_findBefore.cls dC dI cA A al) (hr : meth.sig.returnType = none) (hlk : meth.locks = false) (hs : ShC sh) {a1 : Int32} {Q : St → Prop} {K147 : St → Prop} (hK147 : ∀ (σ : St), K147 σ → WW p l e (RM 2) s m args below meth c (MQ below (va_Qv Q (WPost dC dI cA al sh A) A) args s 0 0 A) dC dI cA A 6 0 0 al sh 147 [] [] σ) {Rc : St → Int32 → Prop} (hRc : ∀ (σ : St) (x2 : Int32), Rc σ x2 → WW p l e (RM 2) s m args below meth c (MQ below (va_Qv Q (WPost dC dI cA al sh A) A) args s 0 0 A) dC dI cA A 6 0 0 al sh 2 [(0, .ref 61), (1, .int a1), (2, .int x2)] [] σ) {σ : St} {x2 : Int32} (h : m_X9_findBefore_J105 a1 Q K147 Rc σ x2) : WW p l e (RM 2) s m args below meth c (MQ below (va_Qv Q (WPost dC dI cA al sh A) A) args s 0 0 A) dC dI cA A 6 0 0 al sh 105 [(0, .ref 61), (1, .int a1), (2, .int x2)] [] σ := by
  unfold m_X9_findBefore_J105 at h
  refine ww_aload_n C 0 rfl dX9_findBefore_105 ?_
  refine ww_getR C (shc_61 hs) rfl inG9 18 (by decide) nq_129 rfl dX9_findBefore_106 ?_
  refine ww_iload_n C 2 rfl dX9_findBefore_109 ?_
  refine ww_dup2 C rfl rfl dX9_findBefore_110 ?_
  refine ww_iald C (shc_70 hs) h.1 dX9_findBefore_111 ?_
  have h := h.2
  refine ww_aload_n C 0 rfl dX9_findBefore_112 ?_
  refine ww_iload_n C 1 rfl dX9_findBefore_113 ?_
  refine ww_iload_n C 2 rfl dX9_findBefore_114 ?_
  refine ww_vi (n := 2) (As := [.int a1, .int x2]) (rest := [.int (σ.1 70 x2.toNatClampNeg), .int x2, .ref 70]) C (c_X9_signAt hs h) (shc_61 hs) rfl nq_331 nq_332 nq_333 nq_5 nq_334 (by decide +kernel) rfl rfl ⟨Nat.le_of_ble_eq_true rfl, Nat.le_of_ble_eq_true rfl, Nat.le_of_ble_eq_true rfl, Nat.le_of_ble_eq_true rfl⟩ (Nat.le_of_ble_eq_true rfl) dX9_findBefore_115 (fun r115 σ115 h => ?_)
  refine ww_bipush (v := 6) C dX9_findBefore_118 (by decide) ?_
  refine ww_icmp_ne (tgt := 138) C dX9_findBefore_120 (by decide) (fun hc => ?_) (fun hc => ?_)
  · have h := h.1 hc
    refine ww_iconst (v := 0) C dX9_findBefore_138 (by decide) ?_
    refine ww_ior C dX9_findBefore_139 ?_
    refine ww_iast C (shc_70 hs) h.1 dX9_findBefore_140 h.2 (fun σ140 h => ?_)
    refine ww_iinc (v := (x2 + 1)) (lv' := [(2, .int (x2 + 1)), (0, .ref 61), (1, .int a1)]) C 2 rfl dX9_findBefore_141 rfl (by decide) rfl ?_
    refine ww_goto (tgt := 2) C dX9_findBefore_144 (by decide) ?_
    refine ww_sub [1, 2, 0] rfl ?_
    exact hRc _ _ h
  · have h := h.2 hc
    refine ww_aload_n C 0 rfl dX9_findBefore_123 ?_
    refine ww_iload_n C 1 rfl dX9_findBefore_124 ?_
    refine ww_aload_n C 0 rfl dX9_findBefore_125 ?_
    refine ww_iload_n C 1 rfl dX9_findBefore_126 ?_
    refine ww_iload_n C 2 rfl dX9_findBefore_127 ?_
    refine ww_vi (n := 2) (As := [.int a1, .int x2]) (rest := [.int a1, .ref 61, .int (σ.1 70 x2.toNatClampNeg), .int x2, .ref 70]) C (c_X9_aboutAt hs h) (shc_61 hs) rfl nq_335 nq_336 nq_337 nq_5 nq_338 (by decide +kernel) rfl rfl ⟨Nat.le_of_ble_eq_true rfl, Nat.le_of_ble_eq_true rfl, Nat.le_of_ble_eq_true rfl, Nat.le_of_ble_eq_true rfl⟩ (Nat.le_of_ble_eq_true rfl) dX9_findBefore_128 (fun r128 σ128 h => ?_)
    refine ww_iload_n C 2 rfl dX9_findBefore_131 ?_
    refine ww_vi (n := 3) (As := [.int a1, .int r128, .int x2]) (rest := [.int (σ.1 70 x2.toNatClampNeg), .int x2, .ref 70]) C (c_X9_allBefore hs h) (shc_61 hs) rfl nq_521 nq_522 nq_523 nq_5 nq_524 (by decide +kernel) rfl rfl ⟨Nat.le_of_ble_eq_true rfl, Nat.le_of_ble_eq_true rfl, Nat.le_of_ble_eq_true rfl, Nat.le_of_ble_eq_true rfl⟩ (Nat.le_of_ble_eq_true rfl) dX9_findBefore_132 (fun r132 σ132 h => ?_)
    refine ww_goto (tgt := 139) C dX9_findBefore_135 (by decide) ?_
    refine ww_ior C dX9_findBefore_139 ?_
    refine ww_iast C (shc_70 hs) h.1 dX9_findBefore_140 h.2 (fun σ140 h => ?_)
    refine ww_iinc (v := (x2 + 1)) (lv' := [(2, .int (x2 + 1)), (0, .ref 61), (1, .int a1)]) C 2 rfl dX9_findBefore_141 rfl (by decide) rfl ?_
    refine ww_goto (tgt := 2) C dX9_findBefore_144 (by decide) ?_
    refine ww_sub [1, 2, 0] rfl ?_
    exact hRc _ _ h
set_option maxRecDepth 100000 in
set_option maxHeartbeats 4000000 in
theorem w_X9_findBefore_L2b {p : Program} {l : Launch} {e : Env} {s : State} {m : MethodId} {args : Array Value} {below : List Frame} {meth : Method} {c : Code} {dC : Nat → ClassId} {dI : Nat → Nat → Nat} {cA : Nat → ClassId} {A : Nat → Prop} {al : Nat → Nat} {sh : List Kd} (C : Fx p s m args c cX9_findBefore 6 yX9_findBefore.cls dC dI cA A al) (hr : meth.sig.returnType = none) (hlk : meth.locks = false) (hs : ShC sh) {a1 : Int32} {Q : St → Prop} {K147 : St → Prop} (hK147 : ∀ (σ : St), K147 σ → WW p l e (RM 2) s m args below meth c (MQ below (va_Qv Q (WPost dC dI cA al sh A) A) args s 0 0 A) dC dI cA A 6 0 0 al sh 147 [] [] σ) {Rc : St → Int32 → Prop} (hRc : ∀ (σ : St) (x2 : Int32), Rc σ x2 → WW p l e (RM 2) s m args below meth c (MQ below (va_Qv Q (WPost dC dI cA al sh A) A) args s 0 0 A) dC dI cA A 6 0 0 al sh 2 [(0, .ref 61), (1, .int a1), (2, .int x2)] [] σ) {σ : St} {x2 : Int32} (h : m_X9_findBefore_L2b a1 Q K147 Rc σ x2) : WW p l e (RM 2) s m args below meth c (MQ below (va_Qv Q (WPost dC dI cA al sh A) A) args s 0 0 A) dC dI cA A 6 0 0 al sh 2 [(0, .ref 61), (1, .int a1), (2, .int x2)] [] σ := by
  unfold m_X9_findBefore_L2b at h
  refine ww_iload_n C 2 rfl dX9_findBefore_2 ?_
  refine ww_aload_n C 0 rfl dX9_findBefore_3 ?_
  refine ww_iload_n C 1 rfl dX9_findBefore_4 ?_
  refine ww_vi (n := 1) (As := [.int a1]) (rest := [.int x2]) C (c_X9_many hs h) (shc_61 hs) rfl nq_291 nq_292 nq_293 nq_5 nq_294 (by decide +kernel) rfl rfl ⟨Nat.le_of_ble_eq_true rfl, Nat.le_of_ble_eq_true rfl, Nat.le_of_ble_eq_true rfl, Nat.le_of_ble_eq_true rfl⟩ (Nat.le_of_ble_eq_true rfl) dX9_findBefore_5 (fun r5 σ5 h => ?_)
  refine ww_icmp_ge (tgt := 147) C dX9_findBefore_8 (by decide) (fun hc => ?_) (fun hc => ?_)
  · have h := h.1 hc
    refine ww_sub [] rfl ?_
    exact hK147 _ h
  · have h := h.2 hc
    refine ww_aload_n C 0 rfl dX9_findBefore_11 ?_
    refine ww_iload_n C 1 rfl dX9_findBefore_12 ?_
    refine ww_iload_n C 2 rfl dX9_findBefore_13 ?_
    refine ww_vi (n := 2) (As := [.int a1, .int x2]) (rest := []) C (c_X9_threadAt hs h) (shc_61 hs) rfl nq_327 nq_328 nq_329 nq_5 nq_330 (by decide +kernel) rfl rfl ⟨Nat.le_of_ble_eq_true rfl, Nat.le_of_ble_eq_true rfl, Nat.le_of_ble_eq_true rfl, Nat.le_of_ble_eq_true rfl⟩ (Nat.le_of_ble_eq_true rfl) dX9_findBefore_14 (fun r14 σ14 h => ?_)
    refine ww_istore_n (lv' := [(3, .int r14), (0, .ref 61), (1, .int a1), (2, .int x2)]) C dX9_findBefore_17 rfl (by decide) rfl ?_
    refine ww_aload_n C 1 rfl dX9_findBefore_18 ?_
    refine ww_getR C (shc_61 hs) rfl inG9 18 (by decide) nq_129 rfl dX9_findBefore_19 ?_
    refine ww_iload_n C 3 rfl dX9_findBefore_22 ?_
    refine ww_aload_n C 1 rfl dX9_findBefore_23 ?_
    refine ww_iload_n C 2 rfl dX9_findBefore_24 ?_
    refine ww_iload_n C 0 rfl dX9_findBefore_25 ?_
    refine ww_iload_n C 3 rfl dX9_findBefore_26 ?_
    refine ww_vi (n := 3) (As := [.int a1, .int r14, .int x2]) (rest := [.int x2, .ref 70]) C (c_X9_allBefore hs h) (shc_61 hs) rfl nq_521 nq_522 nq_523 nq_5 nq_524 (by decide +kernel) rfl rfl ⟨Nat.le_of_ble_eq_true rfl, Nat.le_of_ble_eq_true rfl, Nat.le_of_ble_eq_true rfl, Nat.le_of_ble_eq_true rfl⟩ (Nat.le_of_ble_eq_true rfl) dX9_findBefore_27 (fun r27 σ27 h => ?_)
    refine ww_iast C (shc_70 hs) h.1 dX9_findBefore_30 h.2 (fun σ30 h => ?_)
    refine ww_iconst (v := 0) C dX9_findBefore_31 (by decide) ?_
    refine ww_istore (lv' := [(4, .int 0), (3, .int r14), (0, .ref 61), (1, .int a1), (2, .int x2)]) C dX9_findBefore_32 (by decide) rfl ?_
    refine ww_sub [2, 3, 4, 1, 0] rfl ?_
    obtain ⟨f, h⟩ := h
    exact w_X9_findBefore_L34 (Q := Q) (a1 := a1) C hr hlk hs (fun σ h => by exact w_X9_findBefore_J105 (Q := Q) (a1 := a1) C hr hlk hs hK147 hRc h) f _ _ h
set_option maxRecDepth 100000 in
set_option maxHeartbeats 4000000 in
theorem w_X9_findBefore_L2 {p : Program} {l : Launch} {e : Env} {s : State} {m : MethodId} {args : Array Value} {below : List Frame} {meth : Method} {c : Code} {dC : Nat → ClassId} {dI : Nat → Nat → Nat} {cA : Nat → ClassId} {A : Nat → Prop} {al : Nat → Nat} {sh : List Kd} (C : Fx p s m args c cX9_findBefore 6 yX9_findBefore.cls dC dI cA A al) (hr : meth.sig.returnType = none) (hlk : meth.locks = false) (hs : ShC sh) {a1 : Int32} {Q : St → Prop} {K147 : St → Prop} (hK147 : ∀ (σ : St), K147 σ → WW p l e (RM 2) s m args below meth c (MQ below (va_Qv Q (WPost dC dI cA al sh A) A) args s 0 0 A) dC dI cA A 6 0 0 al sh 147 [] [] σ) : ∀ (f : Nat) (σ : St) (x2 : Int32), m_X9_findBefore_L2 a1 Q K147 f σ x2 → WW p l e (RM 2) s m args below meth c (MQ below (va_Qv Q (WPost dC dI cA al sh A) A) args s 0 0 A) dC dI cA A 6 0 0 al sh 2 [(0, .ref 61), (1, .int a1), (2, .int x2)] [] σ := by
  intro f
  induction f with
  | zero => intro σ x2 h; exact False.elim h
  | succ f ih => intro σ x2 h; exact w_X9_findBefore_L2b (Q := Q) (a1 := a1) C hr hlk hs hK147 ih h
set_option maxRecDepth 100000 in
set_option maxHeartbeats 4000000 in
theorem w_X9_findBefore_J147 {p : Program} {l : Launch} {e : Env} {s : State} {m : MethodId} {args : Array Value} {below : List Frame} {meth : Method} {c : Code} {dC : Nat → ClassId} {dI : Nat → Nat → Nat} {cA : Nat → ClassId} {A : Nat → Prop} {al : Nat → Nat} {sh : List Kd} (C : Fx p s m args c cX9_findBefore 6 yX9_findBefore.cls dC dI cA A al) (hr : meth.sig.returnType = none) (hlk : meth.locks = false) (hs : ShC sh) {a1 : Int32} {Q : St → Prop} {σ : St} (h : m_X9_findBefore_J147 a1 Q σ) : WW p l e (RM 2) s m args below meth c (MQ below (va_Qv Q (WPost dC dI cA al sh A) A) args s 0 0 A) dC dI cA A 6 0 0 al sh 147 [] [] σ := by
  unfold m_X9_findBefore_J147 at h
  exact ww_vret C hr hlk h dX9_findBefore_147
set_option maxRecDepth 100000 in
set_option maxHeartbeats 4000000 in
theorem c_X9_findBefore {l : Launch} {dC : Nat → ClassId} {dI : Nat → Nat → Nat} {cA : Nat → ClassId} {al : Nat → Nat} {sh : List Kd} (hs : ShC sh) {σ : St} {a1 : Int32} {Q : St → Prop} (h : m_X9_findBefore σ a1 Q) : ∀ sz, Met l yX9_findBefore (wd yX9_findBefore cX9_findBefore 6 none) (RM 2) (va_Pc ([.ref 61, .int a1].map (cv al)) (WPre dC dI cA al sh σ sz)) (va_Qv Q (WPost dC dI cA al sh (AW al sh sz)) (AW al sh sz)) 0 0 (AW al sh sz) := by
  refine ww_met (Qc := fun A => va_Qv Q (WPost dC dI cA al sh A) A) (by decide +kernel) (Nat.le_of_ble_eq_true rfl) (fun p e s m args below meth c A C hr hlk => ?_)
  show WW p l e (RM 2) s m args below meth c (MQ below (va_Qv Q (WPost dC dI cA al sh A) A) args s 0 0 A) dC dI cA A 6 0 0 al sh 0 [(0, .ref 61), (1, .int a1)] [] σ
  unfold m_X9_findBefore at h
  refine ww_iconst (v := 0) C dX9_findBefore_0 (by decide) ?_
  refine ww_istore_n (lv' := [(2, .int 0), (0, .ref 61), (1, .int a1)]) C dX9_findBefore_1 rfl (by decide) rfl ?_
  refine ww_sub [1, 2, 0] rfl ?_
  obtain ⟨f, h⟩ := h
  exact w_X9_findBefore_L2 (Q := Q) (a1 := a1) C hr hlk hs (fun σ h => by exact w_X9_findBefore_J147 (Q := Q) (a1 := a1) C hr hlk hs h) f _ _ h
