set_option maxRecDepth 100000 in
set_option maxHeartbeats 4000000 in
theorem w_X8_share_L19b {p : Program} {l : Launch} {e : Env} {s : State} {m : MethodId} {args : Array Value} {below : List Frame} {meth : Method} {c : Code} {dC : Nat → ClassId} {dI : Nat → Nat → Nat} {cA : Nat → ClassId} {A : Nat → Prop} {al : Nat → Nat} {sh : List Kd} (C : Fx p s m args c cX8_share 7 yX8_share.cls dC dI cA A al) (hr : meth.sig.returnType = some .int) (hlk : meth.locks = false) (hs : ShC sh) {a1 : Int32} {a2 : Int32} {Q : Int32 → St → Prop} {x3 : Int32} {K81 : St → Int32 → Prop} (hK81 : ∀ (σ : St) (x4 : Int32), K81 σ x4 → WW p l e (RM 5) s m args below meth c (MQ below (va_Qi Q (WPost dC dI cA al sh A) A) args s 0 0 A) dC dI cA A 7 0 0 al sh 81 [(2, .int a2), (4, .int x4)] [] σ) {Rc : St → Int32 → Int32 → Prop} (hRc : ∀ (σ : St) (x4 : Int32) (x5 : Int32), Rc σ x4 x5 → WW p l e (RM 5) s m args below meth c (MQ below (va_Qi Q (WPost dC dI cA al sh A) A) args s 0 0 A) dC dI cA A 7 0 0 al sh 19 [(0, .ref 0), (2, .int a2), (3, .int x3), (4, .int x4), (5, .int x5)] [] σ) {σ : St} {x4 : Int32} {x5 : Int32} (h : m_X8_share_L19b a1 a2 Q x3 K81 Rc σ x4 x5) : WW p l e (RM 5) s m args below meth c (MQ below (va_Qi Q (WPost dC dI cA al sh A) A) args s 0 0 A) dC dI cA A 7 0 0 al sh 19 [(0, .ref 0), (2, .int a2), (3, .int x3), (4, .int x4), (5, .int x5)] [] σ := by
  unfold m_X8_share_L19b at h
  refine ww_iload C 4 rfl dX8_share_19 ?_
  refine ww_bipush (v := 15) C dX8_share_21 (by decide) ?_
  refine ww_icmp_gt (tgt := 81) C dX8_share_23 (by decide) (fun hc => ?_) (fun hc => ?_)
  · have h := h.1 hc
    refine ww_sub [1, 3] rfl ?_
    exact hK81 _ _ h
  · have h := h.2 hc
    refine ww_iload C 4 rfl dX8_share_26 ?_
    refine ww_iload_n C 2 rfl dX8_share_28 ?_
    refine ww_iand C dX8_share_29 ?_
    refine ww_if_ne (tgt := 75) C dX8_share_30 (by decide) (fun hc => ?_) (fun hc => ?_)
    · have h := h.1 hc
      refine ww_iinc (v := (x5 + 1)) (lv' := [(5, .int (x5 + 1)), (0, .ref 0), (2, .int a2), (3, .int x3), (4, .int x4)]) C 4 rfl dX8_share_75 rfl (by decide) rfl ?_
      refine ww_goto (tgt := 19) C dX8_share_78 (by decide) ?_
      refine ww_sub [1, 2, 3, 4, 0] rfl ?_
      exact hRc _ _ _ h
    · have h := h.2 hc
      refine ww_aload_n C 0 rfl dX8_share_33 ?_
      refine ww_getR C (shc_0 hs) rfl inG8 1 (by decide) nq_20 rfl dX8_share_34 ?_
      refine ww_iload C 4 rfl dX8_share_37 ?_
      refine ww_si (n := 2) (As := [.ref 3, .int x5]) (rest := []) C (c_X1_flaggedCount (shr_3 hs) h) nq_758 nq_759 nq_438 nq_760 (by decide +kernel) rfl rfl ⟨Nat.le_of_ble_eq_true rfl, Nat.le_of_ble_eq_true rfl, Nat.le_of_ble_eq_true rfl, Nat.le_of_ble_eq_true rfl⟩ (Nat.le_of_ble_eq_true rfl) dX8_share_39 (fun r39 σ39 h => ?_)
      refine ww_aload_n C 0 rfl dX8_share_42 ?_
      refine ww_getR C (shc_0 hs) rfl inG8 1 (by decide) nq_20 rfl dX8_share_43 ?_
      refine ww_iload C 4 rfl dX8_share_46 ?_
      refine ww_iload_n C 2 rfl dX8_share_48 ?_
      refine ww_ior C dX8_share_49 ?_
      refine ww_si (n := 2) (As := [.ref 3, .int (x5 ||| x3)]) (rest := [.int r39]) C (c_X1_flaggedCount (shr_3 hs) h) nq_758 nq_759 nq_438 nq_760 (by decide +kernel) rfl rfl ⟨Nat.le_of_ble_eq_true rfl, Nat.le_of_ble_eq_true rfl, Nat.le_of_ble_eq_true rfl, Nat.le_of_ble_eq_true rfl⟩ (Nat.le_of_ble_eq_true rfl) dX8_share_50 (fun r50 σ50 h => ?_)
      refine ww_isub C dX8_share_53 ?_
      refine ww_nmI h (fun y54 h => ?_)
      refine ww_istore (lv' := [(6, .int y54), (0, .ref 0), (2, .int a2), (3, .int x3), (4, .int x4), (5, .int x5)]) C dX8_share_54 (by decide) rfl ?_
      refine ww_iload C 4 rfl dX8_share_56 ?_
      refine ww_gsO C nq_756 dX8_share_58 ?_
      refine ww_iload C 5 rfl dX8_share_61 ?_
      refine ww_si (n := 1) (As := [.int x5]) (rest := [.ref 1001, .int x4]) C (c_J6_bitCount_0f7a4 h) nq_772 nq_766 nq_767 nq_768 (by decide +kernel) rfl rfl ⟨Nat.le_of_ble_eq_true rfl, Nat.le_of_ble_eq_true rfl, Nat.le_of_ble_eq_true rfl, Nat.le_of_ble_eq_true rfl⟩ (Nat.le_of_ble_eq_true rfl) dX8_share_63 (fun r63 σ63 h => ?_)
      refine ww_iconst (v := 3) C dX8_share_66 (by decide) ?_
      refine ww_iand C dX8_share_67 ?_
      refine ww_sldO C h.1 dX8_share_68 ?_
      have h := h.2
      refine ww_iload C 0 rfl dX8_share_69 ?_
      refine ww_imul C dX8_share_71 ?_
      refine ww_iadd C dX8_share_72 ?_
      refine ww_nmI h (fun y73 h => ?_)
      refine ww_istore (lv' := [(4, .int y73), (6, .int y54), (0, .ref 0), (2, .int a2), (3, .int x3), (5, .int x5)]) C dX8_share_73 (by decide) rfl ?_
      refine ww_iinc (v := (x5 + 1)) (lv' := [(5, .int (x5 + 1)), (4, .int y73), (6, .int y54), (0, .ref 0), (2, .int a2), (3, .int x3)]) C 5 rfl dX8_share_75 rfl (by decide) rfl ?_
      refine ww_goto (tgt := 19) C dX8_share_78 (by decide) ?_
      refine ww_sub [3, 4, 5, 1, 0] rfl ?_
      exact hRc _ _ _ h
set_option maxRecDepth 100000 in
set_option maxHeartbeats 4000000 in
theorem w_X8_share_L19 {p : Program} {l : Launch} {e : Env} {s : State} {m : MethodId} {args : Array Value} {below : List Frame} {meth : Method} {c : Code} {dC : Nat → ClassId} {dI : Nat → Nat → Nat} {cA : Nat → ClassId} {A : Nat → Prop} {al : Nat → Nat} {sh : List Kd} (C : Fx p s m args c cX8_share 7 yX8_share.cls dC dI cA A al) (hr : meth.sig.returnType = some .int) (hlk : meth.locks = false) (hs : ShC sh) {a1 : Int32} {a2 : Int32} {Q : Int32 → St → Prop} {x3 : Int32} {K81 : St → Int32 → Prop} (hK81 : ∀ (σ : St) (x4 : Int32), K81 σ x4 → WW p l e (RM 5) s m args below meth c (MQ below (va_Qi Q (WPost dC dI cA al sh A) A) args s 0 0 A) dC dI cA A 7 0 0 al sh 81 [(2, .int a2), (4, .int x4)] [] σ) : ∀ (f : Nat) (σ : St) (x4 : Int32) (x5 : Int32), m_X8_share_L19 a1 a2 Q x3 K81 f σ x4 x5 → WW p l e (RM 5) s m args below meth c (MQ below (va_Qi Q (WPost dC dI cA al sh A) A) args s 0 0 A) dC dI cA A 7 0 0 al sh 19 [(0, .ref 0), (2, .int a2), (3, .int x3), (4, .int x4), (5, .int x5)] [] σ := by
  intro f
  induction f with
  | zero => intro σ x4 x5 h; exact False.elim h
  | succ f ih => intro σ x4 x5 h; exact w_X8_share_L19b (Q := Q) (a1 := a1) (a2 := a2) C hr hlk hs hK81 ih h
set_option maxRecDepth 100000 in
set_option maxHeartbeats 4000000 in
theorem w_X8_share_J81 {p : Program} {l : Launch} {e : Env} {s : State} {m : MethodId} {args : Array Value} {below : List Frame} {meth : Method} {c : Code} {dC : Nat → ClassId} {dI : Nat → Nat → Nat} {cA : Nat → ClassId} {A : Nat → Prop} {al : Nat → Nat} {sh : List Kd} (C : Fx p s m args c cX8_share 7 yX8_share.cls dC dI cA A al) (hr : meth.sig.returnType = some .int) (hlk : meth.locks = false) (hs : ShC sh) {a1 : Int32} {a2 : Int32} {Q : Int32 → St → Prop} {σ : St} {x4 : Int32} (h : m_X8_share_J81 a1 a2 Q σ x4) : WW p l e (RM 5) s m args below meth c (MQ below (va_Qi Q (WPost dC dI cA al sh A) A) args s 0 0 A) dC dI cA A 7 0 0 al sh 81 [(2, .int a2), (4, .int x4)] [] σ := by
  unfold m_X8_share_J81 at h
  refine ww_iload C 1 rfl dX8_share_81 ?_
  refine ww_i2l C dX8_share_83 ?_
  refine ww_ldc2 (v := 24) C nq_757 dX8_share_84 ?_
  refine ww_iload_n C 0 rfl dX8_share_87 ?_
  refine ww_si (n := 3) (As := [.long (x4.toInt64), .long 24, .int a2]) (rest := []) C (c_X8_fraction hs h) nq_773 nq_774 nq_2 nq_775 (by decide +kernel) rfl rfl ⟨Nat.le_of_ble_eq_true rfl, Nat.le_of_ble_eq_true rfl, Nat.le_of_ble_eq_true rfl, Nat.le_of_ble_eq_true rfl⟩ (Nat.le_of_ble_eq_true rfl) dX8_share_88 (fun r88 σ88 h => ?_)
  exact ww_iret C hr hlk h dX8_share_91
set_option maxRecDepth 100000 in
set_option maxHeartbeats 4000000 in
theorem c_X8_share {l : Launch} {dC : Nat → ClassId} {dI : Nat → Nat → Nat} {cA : Nat → ClassId} {al : Nat → Nat} {sh : List Kd} (hs : ShC sh) {σ : St} {a1 : Int32} {a2 : Int32} {Q : Int32 → St → Prop} (h : m_X8_share σ a1 a2 Q) : ∀ sz, Met l yX8_share (wd yX8_share cX8_share 7 (some .int)) (RM 5) (va_Pc ([.ref 0, .int a1, .int a2].map (cv al)) (WPre dC dI cA al sh σ sz)) (va_Qi Q (WPost dC dI cA al sh (AW al sh sz)) (AW al sh sz)) 0 0 (AW al sh sz) := by
  refine ww_met (Qc := fun A => va_Qi Q (WPost dC dI cA al sh A) A) (by decide +kernel) (Nat.le_of_ble_eq_true rfl) (fun p e s m args below meth c A C hr hlk => ?_)
  show WW p l e (RM 5) s m args below meth c (MQ below (va_Qi Q (WPost dC dI cA al sh A) A) args s 0 0 A) dC dI cA A 7 0 0 al sh 0 [(0, .ref 0), (1, .int a1), (2, .int a2)] [] σ
  unfold m_X8_share at h
  refine ww_iload_n C 1 rfl dX8_share_0 ?_
  refine ww_si (n := 1) (As := [.int a1]) (rest := []) C (c_X8_isOneOfFour hs h) nq_435 nq_207 nq_2 nq_208 (by decide +kernel) rfl rfl ⟨Nat.le_of_ble_eq_true rfl, Nat.le_of_ble_eq_true rfl, Nat.le_of_ble_eq_true rfl, Nat.le_of_ble_eq_true rfl⟩ (Nat.le_of_ble_eq_true rfl) dX8_share_1 (fun r1 σ1 h => ?_)
  refine ww_if_ne (tgt := 9) C dX8_share_4 (by decide) (fun hc => ?_) (fun hc => ?_)
  · have h := h.1 hc
    refine ww_iconst (v := 1) C dX8_share_9 (by decide) ?_
    refine ww_iload_n C 1 rfl dX8_share_10 ?_
    refine ww_ishl C dX8_share_11 ?_
    refine ww_nmI h (fun y12 h => ?_)
    refine ww_istore_n (lv' := [(3, .int y12), (0, .ref 0), (1, .int a1), (2, .int a2)]) C dX8_share_12 rfl (by decide) rfl ?_
    refine ww_iconst (v := 0) C dX8_share_13 (by decide) ?_
    refine ww_istore (lv' := [(4, .int 0), (3, .int y12), (0, .ref 0), (1, .int a1), (2, .int a2)]) C dX8_share_14 (by decide) rfl ?_
    refine ww_iconst (v := 0) C dX8_share_16 (by decide) ?_
    refine ww_istore (lv' := [(5, .int 0), (4, .int 0), (3, .int y12), (0, .ref 0), (1, .int a1), (2, .int a2)]) C dX8_share_17 (by decide) rfl ?_
    refine ww_sub [3, 5, 2, 1, 0] rfl ?_
    obtain ⟨f, h⟩ := h
    exact w_X8_share_L19 (Q := Q) (a1 := a1) (a2 := a2) C hr hlk hs (fun σ x4 h => by exact w_X8_share_J81 (Q := Q) (a1 := a1) (a2 := a2) C hr hlk hs h) f _ _ _ h
  · have h := h.2 hc
    refine ww_iconst (v := -1) C dX8_share_7 (by decide) ?_
    exact ww_iret C hr hlk h dX8_share_8
set_option maxRecDepth 100000 in
set_option maxHeartbeats 4000000 in
theorem c_X8_lost {l : Launch} {dC : Nat → ClassId} {dI : Nat → Nat → Nat} {cA : Nat → ClassId} {al : Nat → Nat} {sh : List Kd} (hs : ShC sh) {σ : St} {a1 : Int32} {a2 : Int32} {a3 : Int32} {Q : Int32 → St → Prop} (h : m_X8_lost σ a1 a2 a3 Q) : ∀ sz, Met l yX8_lost (wd yX8_lost cX8_lost 4 (some .int)) (RM 4) (va_Pc ([.ref 0, .int a1, .int a2, .int a3].map (cv al)) (WPre dC dI cA al sh σ sz)) (va_Qi Q (WPost dC dI cA al sh (AW al sh sz)) (AW al sh sz)) 0 0 (AW al sh sz) := by
  refine ww_met (Qc := fun A => va_Qi Q (WPost dC dI cA al sh A) A) (by decide +kernel) (Nat.le_of_ble_eq_true rfl) (fun p e s m args below meth c A C hr hlk => ?_)
  show WW p l e (RM 4) s m args below meth c (MQ below (va_Qi Q (WPost dC dI cA al sh A) A) args s 0 0 A) dC dI cA A 4 0 0 al sh 0 [(0, .ref 0), (1, .int a1), (2, .int a2), (3, .int a3)] [] σ
  unfold m_X8_lost at h
  refine ww_iload_n C 1 rfl dX8_lost_0 ?_
  refine ww_si (n := 1) (As := [.int a1]) (rest := []) C (c_X8_isOneOfFour hs h) nq_435 nq_207 nq_2 nq_208 (by decide +kernel) rfl rfl ⟨Nat.le_of_ble_eq_true rfl, Nat.le_of_ble_eq_true rfl, Nat.le_of_ble_eq_true rfl, Nat.le_of_ble_eq_true rfl⟩ (Nat.le_of_ble_eq_true rfl) dX8_lost_1 (fun r1 σ1 h => ?_)
  refine ww_if_ne (tgt := 9) C dX8_lost_4 (by decide) (fun hc => ?_) (fun hc => ?_)
  · have h := h.1 hc
    refine ww_iload_n C 2 rfl dX8_lost_9 ?_
    refine ww_if_lt (tgt := 19) C dX8_lost_10 (by decide) (fun hc => ?_) (fun hc => ?_)
    · have h := h.1 hc
      refine ww_bipush (v := -2) C dX8_lost_19 (by decide) ?_
      exact ww_iret C hr hlk h dX8_lost_21
    · have h := h.2 hc
      refine ww_iload_n C 2 rfl dX8_lost_13 ?_
      refine ww_bipush (v := 10) C dX8_lost_14 (by decide) ?_
      refine ww_icmp_le (tgt := 22) C dX8_lost_16 (by decide) (fun hc => ?_) (fun hc => ?_)
      · have h := h.1 hc
        refine ww_aload_n C 0 rfl dX8_lost_22 ?_
        refine ww_getR C (shc_0 hs) rfl inG8 1 (by decide) nq_20 rfl dX8_lost_23 ?_
        refine ww_iload_n C 1 rfl dX8_lost_26 ?_
        refine ww_aload_n C 0 rfl dX8_lost_27 ?_
        refine ww_getR C (shc_0 hs) rfl inG8 1 (by decide) nq_20 rfl dX8_lost_28 ?_
        refine ww_getIN C (row_o (shr_3 hs)) rfl inG4 0 (by decide) (List.mem_of_getElem? (i := 12) rfl) rfl dX8_lost_31 ?_
        refine ww_si (n := 3) (As := [.ref 3, .int a1, .int (σ1.1 3 0)]) (rest := []) C (c_X1_touches (shr_3 hs) h) nq_469 nq_470 nq_438 nq_471 (by decide +kernel) rfl rfl ⟨Nat.le_of_ble_eq_true rfl, Nat.le_of_ble_eq_true rfl, Nat.le_of_ble_eq_true rfl, Nat.le_of_ble_eq_true rfl⟩ (Nat.le_of_ble_eq_true rfl) dX8_lost_34 (fun r34 σ34 h => ?_)
        refine ww_bipush (v := 9) C dX8_lost_37 (by decide) ?_
        refine ww_icmp_le (tgt := 45) C dX8_lost_39 (by decide) (fun hc => ?_) (fun hc => ?_)
        · have h := h.1 hc
          refine ww_aload_n C 0 rfl dX8_lost_45 ?_
          refine ww_getR C (shc_0 hs) rfl inG8 8 (by decide) nq_40 rfl dX8_lost_46 ?_
          refine ww_aload_n C 0 rfl dX8_lost_49 ?_
          refine ww_getR C (shc_0 hs) rfl inG8 1 (by decide) nq_20 rfl dX8_lost_50 ?_
          refine ww_iload_n C 1 rfl dX8_lost_53 ?_
          refine ww_iload_n C 2 rfl dX8_lost_54 ?_
          refine ww_vv (n := 3) (As := [.ref 3, .int a1, .int a2]) (rest := []) C (c_X2_spread hs (shr_3 hs) h) (shc_58 hs) rfl nq_793 nq_794 nq_795 nq_39 nq_796 (by decide +kernel) rfl rfl ⟨Nat.le_of_ble_eq_true rfl, Nat.le_of_ble_eq_true rfl, Nat.le_of_ble_eq_true rfl, Nat.le_of_ble_eq_true rfl⟩ (Nat.le_of_ble_eq_true rfl) dX8_lost_55 (fun σ55 h => ?_)
          refine ww_aload_n C 0 rfl dX8_lost_58 ?_
          refine ww_getR C (shc_0 hs) rfl inG8 8 (by decide) nq_40 rfl dX8_lost_59 ?_
          refine ww_vl (n := 0) (As := []) (rest := []) C (c_X2_ofFlagged hs h) (shc_58 hs) rfl nq_811 nq_812 nq_813 nq_39 nq_814 (by decide +kernel) rfl rfl ⟨Nat.le_of_ble_eq_true rfl, Nat.le_of_ble_eq_true rfl, Nat.le_of_ble_eq_true rfl, Nat.le_of_ble_eq_true rfl⟩ (Nat.le_of_ble_eq_true rfl) dX8_lost_62 (fun r62 σ62 h => ?_)
          refine ww_aload_n C 0 rfl dX8_lost_65 ?_
          refine ww_getR C (shc_0 hs) rfl inG8 8 (by decide) nq_40 rfl dX8_lost_66 ?_
          refine ww_getLN C (shc_58 hs) rfl inG2 0 (by decide) (List.mem_of_getElem? (i := 6) rfl) rfl dX8_lost_69 ?_
          refine ww_iload_n C 3 rfl dX8_lost_72 ?_
          refine ww_si (n := 3) (As := [.long r62, .long (σ62.2 58 0), .int a3]) (rest := []) C (c_X8_fraction hs h) nq_773 nq_774 nq_2 nq_775 (by decide +kernel) rfl rfl ⟨Nat.le_of_ble_eq_true rfl, Nat.le_of_ble_eq_true rfl, Nat.le_of_ble_eq_true rfl, Nat.le_of_ble_eq_true rfl⟩ (Nat.le_of_ble_eq_true rfl) dX8_lost_73 (fun r73 σ73 h => ?_)
          exact ww_iret C hr hlk h dX8_lost_76
        · have h := h.2 hc
          refine ww_bipush (v := -4) C dX8_lost_42 (by decide) ?_
          exact ww_iret C hr hlk h dX8_lost_44
      · have h := h.2 hc
        refine ww_bipush (v := -2) C dX8_lost_19 (by decide) ?_
        exact ww_iret C hr hlk h dX8_lost_21
  · have h := h.2 hc
    refine ww_iconst (v := -1) C dX8_lost_7 (by decide) ?_
    exact ww_iret C hr hlk h dX8_lost_8
set_option maxRecDepth 100000 in
set_option maxHeartbeats 4000000 in
theorem c_X8_seed {l : Launch} {dC : Nat → ClassId} {dI : Nat → Nat → Nat} {cA : Nat → ClassId} {al : Nat → Nat} {sh : List Kd} (hs : ShC sh) {σ : St} {a1 : Int64} {Q : Int64 → St → Prop} (h : m_X8_seed σ a1 Q) : ∀ sz, Met l yX8_seed (wd yX8_seed cX8_seed 5 (some .long)) (RM 0) (va_Pc ([.ref 0, .long a1].map (cv al)) (WPre dC dI cA al sh σ sz)) (va_Ql Q (WPost dC dI cA al sh (AW al sh sz)) (AW al sh sz)) 0 0 (AW al sh sz) := by
  refine ww_met (Qc := fun A => va_Ql Q (WPost dC dI cA al sh A) A) (by decide +kernel) (Nat.le_of_ble_eq_true rfl) (fun p e s m args below meth c A C hr hlk => ?_)
  show WW p l e (RM 0) s m args below meth c (MQ below (va_Ql Q (WPost dC dI cA al sh A) A) args s 0 0 A) dC dI cA A 5 0 0 al sh 0 [(0, .ref 0), (1, .long a1)] [] σ
  unfold m_X8_seed at h
  refine ww_aload_n C 0 rfl dX8_seed_0 ?_
  refine ww_getL C (shc_0 hs) rfl inG8 9 (by decide) nq_41 rfl dX8_seed_1 ?_
  refine ww_nmJ h (fun y4 h => ?_)
  refine ww_lstore_n (lv' := [(3, .long y4), (0, .ref 0), (1, .long a1)]) C dX8_seed_4 rfl (by decide) rfl ?_
  refine ww_aload_n C 1 rfl dX8_seed_5 ?_
  refine ww_lload_n C 2 rfl dX8_seed_6 ?_
  refine ww_putL C (shc_0 hs) rfl inG8 9 (by decide) nq_41 tyX8 tyX8_ok nmX8 rfl (by decide +kernel) rfl dX8_seed_7 h (fun σ7 h => ?_)
  refine ww_lload_n C 0 rfl dX8_seed_10 ?_
  exact ww_lret C hr hlk h dX8_seed_11
set_option maxRecDepth 100000 in
set_option maxHeartbeats 4000000 in
theorem c_X8_faultsOfTrial {l : Launch} {dC : Nat → ClassId} {dI : Nat → Nat → Nat} {cA : Nat → ClassId} {al : Nat → Nat} {sh : List Kd} (hs : ShC sh) {σ : St} {Q : Int32 → St → Prop} (h : m_X8_faultsOfTrial σ Q) : ∀ sz, Met l yX8_faultsOfTrial (wd yX8_faultsOfTrial cX8_faultsOfTrial 1 (some .int)) (RM 9) (va_Pc ([.ref 0].map (cv al)) (WPre dC dI cA al sh σ sz)) (va_Qi Q (WPost dC dI cA al sh (AW al sh sz)) (AW al sh sz)) 0 0 (AW al sh sz) := by
  refine ww_met (Qc := fun A => va_Qi Q (WPost dC dI cA al sh A) A) (by decide +kernel) (Nat.le_of_ble_eq_true rfl) (fun p e s m args below meth c A C hr hlk => ?_)
  show WW p l e (RM 9) s m args below meth c (MQ below (va_Qi Q (WPost dC dI cA al sh A) A) args s 0 0 A) dC dI cA A 1 0 0 al sh 0 [(0, .ref 0)] [] σ
  unfold m_X8_faultsOfTrial at h
  refine ww_aload_n C 0 rfl dX8_faultsOfTrial_0 ?_
  refine ww_getR C (shc_0 hs) rfl inG8 7 (by decide) nq_36 rfl dX8_faultsOfTrial_1 ?_
  refine ww_aload_n C 0 rfl dX8_faultsOfTrial_4 ?_
  refine ww_getR C (shc_0 hs) rfl inG8 2 (by decide) nq_21 rfl dX8_faultsOfTrial_5 ?_
  refine ww_vv (n := 1) (As := [.ref 13]) (rest := []) C (c_X3_find hs (shr_13 hs) h) (shc_52 hs) rfl nq_588 nq_589 nq_590 nq_35 nq_591 (by decide +kernel) rfl rfl ⟨Nat.le_of_ble_eq_true rfl, Nat.le_of_ble_eq_true rfl, Nat.le_of_ble_eq_true rfl, Nat.le_of_ble_eq_true rfl⟩ (Nat.le_of_ble_eq_true rfl) dX8_faultsOfTrial_8 (fun σ8 h => ?_)
  refine ww_aload_n C 0 rfl dX8_faultsOfTrial_11 ?_
  refine ww_getR C (shc_0 hs) rfl inG8 2 (by decide) nq_21 rfl dX8_faultsOfTrial_12 ?_
  refine ww_bipush (v := 15) C dX8_faultsOfTrial_15 (by decide) ?_
  refine ww_si (n := 2) (As := [.ref 13, .int 15]) (rest := []) C (c_X1_flaggedCount (shr_13 hs) h) nq_758 nq_759 nq_438 nq_760 (by decide +kernel) rfl rfl ⟨Nat.le_of_ble_eq_true rfl, Nat.le_of_ble_eq_true rfl, Nat.le_of_ble_eq_true rfl, Nat.le_of_ble_eq_true rfl⟩ (Nat.le_of_ble_eq_true rfl) dX8_faultsOfTrial_17 (fun r17 σ17 h => ?_)
  refine ww_aload_n C 0 rfl dX8_faultsOfTrial_20 ?_
  refine ww_getR C (shc_0 hs) rfl inG8 7 (by decide) nq_36 rfl dX8_faultsOfTrial_21 ?_
  refine ww_vi (n := 0) (As := []) (rest := [.int r17]) C (c_X3_feasible hs h) (shc_52 hs) rfl nq_678 nq_679 nq_680 nq_35 nq_681 (by decide +kernel) rfl rfl ⟨Nat.le_of_ble_eq_true rfl, Nat.le_of_ble_eq_true rfl, Nat.le_of_ble_eq_true rfl, Nat.le_of_ble_eq_true rfl⟩ (Nat.le_of_ble_eq_true rfl) dX8_faultsOfTrial_24 (fun r24 σ24 h => ?_)
  refine ww_iadd C dX8_faultsOfTrial_27 ?_
  exact ww_iret C hr hlk h dX8_faultsOfTrial_28
set_option maxRecDepth 100000 in
set_option maxHeartbeats 4000000 in
theorem w_X8_drawn_L35b {p : Program} {l : Launch} {e : Env} {s : State} {m : MethodId} {args : Array Value} {below : List Frame} {meth : Method} {c : Code} {dC : Nat → ClassId} {dI : Nat → Nat → Nat} {cA : Nat → ClassId} {A : Nat → Prop} {al : Nat → Nat} {sh : List Kd} (C : Fx p s m args c cX8_drawn 6 yX8_drawn.cls dC dI cA A al) (hr : meth.sig.returnType = some .int) (hlk : meth.locks = false) (hs : ShC sh) {a1 : Int32} {Q : Int32 → St → Prop} {K107 : St → Int32 → Prop} (hK107 : ∀ (σ : St) (x3 : Int32), K107 σ x3 → WW p l e (RM 10) s m args below meth c (MQ below (va_Qi Q (WPost dC dI cA al sh A) A) args s 0 0 A) dC dI cA A 6 0 0 al sh 107 [(3, .int x3)] [] σ) {Rc : St → Int32 → Int32 → Int32 → Prop} (hRc : ∀ (σ : St) (x2 : Int32) (x3 : Int32) (x4 : Int32), Rc σ x2 x3 x4 → WW p l e (RM 10) s m args below meth c (MQ below (va_Qi Q (WPost dC dI cA al sh A) A) args s 0 0 A) dC dI cA A 6 0 0 al sh 35 [(0, .ref 0), (1, .int a1), (2, .int x2), (3, .int x3), (4, .int x4)] [] σ) {σ : St} {x2 : Int32} {x3 : Int32} {x4 : Int32} (h : m_X8_drawn_L35b a1 Q K107 Rc σ x2 x3 x4) : WW p l e (RM 10) s m args below meth c (MQ below (va_Qi Q (WPost dC dI cA al sh A) A) args s 0 0 A) dC dI cA A 6 0 0 al sh 35 [(0, .ref 0), (1, .int a1), (2, .int x2), (3, .int x3), (4, .int x4)] [] σ := by
  unfold m_X8_drawn_L35b at h
  refine ww_iload C 4 rfl dX8_drawn_35 ?_
  refine ww_iload_n C 1 rfl dX8_drawn_37 ?_
  refine ww_icmp_ge (tgt := 107) C dX8_drawn_38 (by decide) (fun hc => ?_) (fun hc => ?_)
  · have h := h.1 hc
    refine ww_sub [3] rfl ?_
    exact hK107 _ _ h
  · have h := h.2 hc
    refine ww_aload_n C 0 rfl dX8_drawn_41 ?_
    refine ww_aload_n C 0 rfl dX8_drawn_42 ?_
    refine ww_getL C (shc_0 hs) rfl inG8 9 (by decide) nq_41 rfl dX8_drawn_43 ?_
    refine ww_ldc2 (v := 6364136223846793005) C nq_833 dX8_drawn_46 ?_
    refine ww_lmul C dX8_drawn_49 ?_
    refine ww_ldc2 (v := 1442695040888963407) C nq_834 dX8_drawn_50 ?_
    refine ww_ladd C dX8_drawn_53 ?_
    refine ww_putL C (shc_0 hs) rfl inG8 9 (by decide) nq_41 tyX8 tyX8_ok nmX8 rfl (by decide +kernel) rfl dX8_drawn_54 h (fun σ54 h => ?_)
    refine ww_aload_n C 0 rfl dX8_drawn_57 ?_
    refine ww_getL C (shc_0 hs) rfl inG8 9 (by decide) nq_41 rfl dX8_drawn_58 ?_
    refine ww_bipush (v := 33) C dX8_drawn_61 (by decide) ?_
    refine ww_lushr C dX8_drawn_63 ?_
    refine ww_iconst (v := 1) C dX8_drawn_64 (by decide) ?_
    refine ww_aload_n C 0 rfl dX8_drawn_65 ?_
    refine ww_getR C (shc_0 hs) rfl inG8 2 (by decide) nq_21 rfl dX8_drawn_66 ?_
    refine ww_getIN C (row_o (shr_13 hs)) rfl inG4 0 (by decide) (List.mem_of_getElem? (i := 12) rfl) rfl dX8_drawn_69 ?_
    refine ww_mmax C nq_835 nq_836 nq_609 nq_837 ⟨Nat.le_of_ble_eq_true rfl, Nat.le_of_ble_eq_true rfl, Nat.le_of_ble_eq_true rfl, Nat.le_of_ble_eq_true rfl⟩ dX8_drawn_72 ?_
    refine ww_i2l C dX8_drawn_75 ?_
    refine ww_lrem C dX8_drawn_76 h.1 ?_
    have h := h.2
    refine ww_l2i C dX8_drawn_77 ?_
    refine ww_nmI h (fun y78 h => ?_)
    refine ww_istore (lv' := [(5, .int y78), (0, .ref 0), (1, .int a1), (2, .int x2), (3, .int x3), (4, .int x4)]) C dX8_drawn_78 (by decide) rfl ?_
    refine ww_aload_n C 1 rfl dX8_drawn_80 ?_
    refine ww_getR C (shc_0 hs) rfl inG8 2 (by decide) nq_21 rfl dX8_drawn_81 ?_
    refine ww_iload C 0 rfl dX8_drawn_84 ?_
    refine ww_vi (n := 1) (As := [.int y78]) (rest := []) C (c_X4_takeOut (shr_13 hs) h) (row_o (shr_13 hs)) rfl nq_346 nq_347 nq_348 nq_19 nq_349 (by decide +kernel) rfl rfl ⟨Nat.le_of_ble_eq_true rfl, Nat.le_of_ble_eq_true rfl, Nat.le_of_ble_eq_true rfl, Nat.le_of_ble_eq_true rfl⟩ (Nat.le_of_ble_eq_true rfl) dX8_drawn_86 (fun r86 σ86 h => ?_)
    refine ww_if_eq (tgt := 97) C dX8_drawn_89 (by decide) (fun hc => ?_) (fun hc => ?_)
    · have h := h.1 hc
      refine ww_iload_n C 4 rfl dX8_drawn_97 ?_
      refine ww_iload_n C 3 rfl dX8_drawn_98 ?_
      refine ww_iadd C dX8_drawn_99 ?_
      refine ww_nmI h (fun y100 h => ?_)
      refine ww_istore_n (lv' := [(3, .int y100), (5, .int y78), (0, .ref 0), (1, .int a1), (2, .int x2), (4, .int x4)]) C dX8_drawn_100 rfl (by decide) rfl ?_
      refine ww_iinc (v := (x4 + 1)) (lv' := [(4, .int (x4 + 1)), (3, .int y100), (5, .int y78), (0, .ref 0), (1, .int a1), (2, .int x2)]) C 5 rfl dX8_drawn_101 rfl (by decide) rfl ?_
      refine ww_goto (tgt := 35) C dX8_drawn_104 (by decide) ?_
      refine ww_sub [3, 4, 5, 1, 0] rfl ?_
      exact hRc _ _ _ _ h
    · have h := h.2 hc
      refine ww_aload_n C 1 rfl dX8_drawn_92 ?_
      refine ww_vi (n := 0) (As := []) (rest := []) C (c_X8_faultsOfTrial hs h) (shc_0 hs) rfl nq_838 nq_839 nq_840 nq_2 nq_841 (by decide +kernel) rfl rfl ⟨Nat.le_of_ble_eq_true rfl, Nat.le_of_ble_eq_true rfl, Nat.le_of_ble_eq_true rfl, Nat.le_of_ble_eq_true rfl⟩ (Nat.le_of_ble_eq_true rfl) dX8_drawn_93 (fun r93 σ93 h => ?_)
      refine ww_istore_n (lv' := [(2, .int r93), (5, .int y78), (0, .ref 0), (1, .int a1), (3, .int x3), (4, .int x4)]) C dX8_drawn_96 rfl (by decide) rfl ?_
      refine ww_iload_n C 4 rfl dX8_drawn_97 ?_
      refine ww_iload_n C 0 rfl dX8_drawn_98 ?_
      refine ww_iadd C dX8_drawn_99 ?_
      refine ww_nmI h (fun y100 h => ?_)
      refine ww_istore_n (lv' := [(3, .int y100), (2, .int r93), (5, .int y78), (0, .ref 0), (1, .int a1), (4, .int x4)]) C dX8_drawn_100 rfl (by decide) rfl ?_
      refine ww_iinc (v := (x4 + 1)) (lv' := [(4, .int (x4 + 1)), (3, .int y100), (2, .int r93), (5, .int y78), (0, .ref 0), (1, .int a1)]) C 5 rfl dX8_drawn_101 rfl (by decide) rfl ?_
      refine ww_goto (tgt := 35) C dX8_drawn_104 (by decide) ?_
      refine ww_sub [4, 5, 2, 1, 0] rfl ?_
      exact hRc _ _ _ _ h
set_option maxRecDepth 100000 in
set_option maxHeartbeats 4000000 in
theorem w_X8_drawn_L35 {p : Program} {l : Launch} {e : Env} {s : State} {m : MethodId} {args : Array Value} {below : List Frame} {meth : Method} {c : Code} {dC : Nat → ClassId} {dI : Nat → Nat → Nat} {cA : Nat → ClassId} {A : Nat → Prop} {al : Nat → Nat} {sh : List Kd} (C : Fx p s m args c cX8_drawn 6 yX8_drawn.cls dC dI cA A al) (hr : meth.sig.returnType = some .int) (hlk : meth.locks = false) (hs : ShC sh) {a1 : Int32} {Q : Int32 → St → Prop} {K107 : St → Int32 → Prop} (hK107 : ∀ (σ : St) (x3 : Int32), K107 σ x3 → WW p l e (RM 10) s m args below meth c (MQ below (va_Qi Q (WPost dC dI cA al sh A) A) args s 0 0 A) dC dI cA A 6 0 0 al sh 107 [(3, .int x3)] [] σ) : ∀ (f : Nat) (σ : St) (x2 : Int32) (x3 : Int32) (x4 : Int32), m_X8_drawn_L35 a1 Q K107 f σ x2 x3 x4 → WW p l e (RM 10) s m args below meth c (MQ below (va_Qi Q (WPost dC dI cA al sh A) A) args s 0 0 A) dC dI cA A 6 0 0 al sh 35 [(0, .ref 0), (1, .int a1), (2, .int x2), (3, .int x3), (4, .int x4)] [] σ := by
  intro f
  induction f with
  | zero => intro σ x2 x3 x4 h; exact False.elim h
  | succ f ih => intro σ x2 x3 x4 h; exact w_X8_drawn_L35b (Q := Q) (a1 := a1) C hr hlk hs hK107 ih h
set_option maxRecDepth 100000 in
set_option maxHeartbeats 4000000 in
theorem w_X8_drawn_J107 {p : Program} {l : Launch} {e : Env} {s : State} {m : MethodId} {args : Array Value} {below : List Frame} {meth : Method} {c : Code} {dC : Nat → ClassId} {dI : Nat → Nat → Nat} {cA : Nat → ClassId} {A : Nat → Prop} {al : Nat → Nat} {sh : List Kd} (C : Fx p s m args c cX8_drawn 6 yX8_drawn.cls dC dI cA A al) (hr : meth.sig.returnType = some .int) (hlk : meth.locks = false) (hs : ShC sh) {a1 : Int32} {Q : Int32 → St → Prop} {σ : St} {x3 : Int32} (h : m_X8_drawn_J107 a1 Q σ x3) : WW p l e (RM 10) s m args below meth c (MQ below (va_Qi Q (WPost dC dI cA al sh A) A) args s 0 0 A) dC dI cA A 6 0 0 al sh 107 [(3, .int x3)] [] σ := by
  unfold m_X8_drawn_J107 at h
  refine ww_iload_n C 0 rfl dX8_drawn_107 ?_
  exact ww_iret C hr hlk h dX8_drawn_108
set_option maxRecDepth 100000 in
set_option maxHeartbeats 4000000 in
theorem c_X8_drawn {l : Launch} {dC : Nat → ClassId} {dI : Nat → Nat → Nat} {cA : Nat → ClassId} {al : Nat → Nat} {sh : List Kd} (hs : ShC sh) {σ : St} {a1 : Int32} {Q : Int32 → St → Prop} (h : m_X8_drawn σ a1 Q) : ∀ sz, Met l yX8_drawn (wd yX8_drawn cX8_drawn 6 (some .int)) (RM 10) (va_Pc ([.ref 0, .int a1].map (cv al)) (WPre dC dI cA al sh σ sz)) (va_Qi Q (WPost dC dI cA al sh (AW al sh sz)) (AW al sh sz)) 0 0 (AW al sh sz) := by
  refine ww_met (Qc := fun A => va_Qi Q (WPost dC dI cA al sh A) A) (by decide +kernel) (Nat.le_of_ble_eq_true rfl) (fun p e s m args below meth c A C hr hlk => ?_)
  show WW p l e (RM 10) s m args below meth c (MQ below (va_Qi Q (WPost dC dI cA al sh A) A) args s 0 0 A) dC dI cA A 6 0 0 al sh 0 [(0, .ref 0), (1, .int a1)] [] σ
  unfold m_X8_drawn at h
  refine ww_iload_n C 1 rfl dX8_drawn_0 ?_
  refine ww_iconst (v := 1) C dX8_drawn_1 (by decide) ?_
  refine ww_icmp_lt (tgt := 11) C dX8_drawn_2 (by decide) (fun hc => ?_) (fun hc => ?_)
  · have h := h.1 hc
    refine ww_bipush (v := -2) C dX8_drawn_11 (by decide) ?_
    exact ww_iret C hr hlk h dX8_drawn_13
  · have h := h.2 hc
    refine ww_iload_n C 1 rfl dX8_drawn_5 ?_
    refine ww_bipush (v := 20) C dX8_drawn_6 (by decide) ?_
    refine ww_icmp_le (tgt := 14) C dX8_drawn_8 (by decide) (fun hc => ?_) (fun hc => ?_)
    · have h := h.1 hc
      refine ww_aload_n C 0 rfl dX8_drawn_14 ?_
      refine ww_getR C (shc_0 hs) rfl inG8 2 (by decide) nq_21 rfl dX8_drawn_15 ?_
      refine ww_aload_n C 0 rfl dX8_drawn_18 ?_
      refine ww_getR C (shc_0 hs) rfl inG8 1 (by decide) nq_20 rfl dX8_drawn_19 ?_
      refine ww_vv (n := 1) (As := [.ref 3]) (rest := []) C (c_X4_copy (shr_13 hs) (shr_3 hs) h) (row_o (shr_13 hs)) rfl nq_281 nq_282 nq_283 nq_19 nq_284 (by decide +kernel) rfl rfl ⟨Nat.le_of_ble_eq_true rfl, Nat.le_of_ble_eq_true rfl, Nat.le_of_ble_eq_true rfl, Nat.le_of_ble_eq_true rfl⟩ (Nat.le_of_ble_eq_true rfl) dX8_drawn_22 (fun σ22 h => ?_)
      refine ww_aload_n C 0 rfl dX8_drawn_25 ?_
      refine ww_vi (n := 0) (As := []) (rest := []) C (c_X8_faultsOfTrial hs h) (shc_0 hs) rfl nq_838 nq_839 nq_840 nq_2 nq_841 (by decide +kernel) rfl rfl ⟨Nat.le_of_ble_eq_true rfl, Nat.le_of_ble_eq_true rfl, Nat.le_of_ble_eq_true rfl, Nat.le_of_ble_eq_true rfl⟩ (Nat.le_of_ble_eq_true rfl) dX8_drawn_26 (fun r26 σ26 h => ?_)
      refine ww_istore_n (lv' := [(2, .int r26), (0, .ref 0), (1, .int a1)]) C dX8_drawn_29 rfl (by decide) rfl ?_
      refine ww_iconst (v := 0) C dX8_drawn_30 (by decide) ?_
      refine ww_istore_n (lv' := [(3, .int 0), (2, .int r26), (0, .ref 0), (1, .int a1)]) C dX8_drawn_31 rfl (by decide) rfl ?_
      refine ww_iconst (v := 0) C dX8_drawn_32 (by decide) ?_
      refine ww_istore (lv' := [(4, .int 0), (3, .int 0), (2, .int r26), (0, .ref 0), (1, .int a1)]) C dX8_drawn_33 (by decide) rfl ?_
      refine ww_sub [3, 4, 2, 1, 0] rfl ?_
      obtain ⟨f, h⟩ := h
      exact w_X8_drawn_L35 (Q := Q) (a1 := a1) C hr hlk hs (fun σ x3 h => by exact w_X8_drawn_J107 (Q := Q) (a1 := a1) C hr hlk hs h) f _ _ _ _ h
    · have h := h.2 hc
      refine ww_bipush (v := -2) C dX8_drawn_11 (by decide) ?_
      exact ww_iret C hr hlk h dX8_drawn_13
set_option maxRecDepth 100000 in
set_option maxHeartbeats 4000000 in
theorem c_X8_keep {l : Launch} {dC : Nat → ClassId} {dI : Nat → Nat → Nat} {cA : Nat → ClassId} {al : Nat → Nat} {sh : List Kd} (hs : ShC sh) {σ : St} {a1 : Int32} {Q : Int32 → St → Prop} (h : m_X8_keep σ a1 Q) : ∀ sz, Met l yX8_keep (wd yX8_keep cX8_keep 2 (some .int)) (RM 4) (va_Pc ([.ref 0, .int a1].map (cv al)) (WPre dC dI cA al sh σ sz)) (va_Qi Q (WPost dC dI cA al sh (AW al sh sz)) (AW al sh sz)) 0 0 (AW al sh sz) := by
  refine ww_met (Qc := fun A => va_Qi Q (WPost dC dI cA al sh A) A) (by decide +kernel) (Nat.le_of_ble_eq_true rfl) (fun p e s m args below meth c A C hr hlk => ?_)
  show WW p l e (RM 4) s m args below meth c (MQ below (va_Qi Q (WPost dC dI cA al sh A) A) args s 0 0 A) dC dI cA A 2 0 0 al sh 0 [(0, .ref 0), (1, .int a1)] [] σ
  unfold m_X8_keep at h
  refine ww_iload_n C 1 rfl dX8_keep_0 ?_
  refine ww_if_lt (tgt := 9) C dX8_keep_1 (by decide) (fun hc => ?_) (fun hc => ?_)
  · have h := h.1 hc
    refine ww_iconst (v := -1) C dX8_keep_9 (by decide) ?_
    exact ww_iret C hr hlk h dX8_keep_10
  · have h := h.2 hc
    refine ww_iload_n C 1 rfl dX8_keep_4 ?_
    refine ww_iconst (v := 2) C dX8_keep_5 (by decide) ?_
    refine ww_icmp_lt (tgt := 11) C dX8_keep_6 (by decide) (fun hc => ?_) (fun hc => ?_)
    · have h := h.1 hc
      refine ww_aload_n C 0 rfl dX8_keep_11 ?_
      refine ww_getR C (shc_0 hs) rfl inG8 3 (by decide) nq_22 rfl dX8_keep_12 ?_
      refine ww_iload_n C 1 rfl dX8_keep_15 ?_
      rcases h.1 with hc | hc
      · refine ww_aald (r := 24) C (shc_23 hs) (by rw [hc]; unfold vp_in; decide) (by rw [hc]; rfl) dX8_keep_16 ?_
        have h := h.2.1 hc
        refine ww_aload_n C 0 rfl dX8_keep_17 ?_
        refine ww_getR C (shc_0 hs) rfl inG8 1 (by decide) nq_20 rfl dX8_keep_18 ?_
        refine ww_vv (n := 1) (As := [.ref 3]) (rest := []) C (c_X4_copy (shr_24 hs) (shr_3 hs) h) (row_o (shr_24 hs)) rfl nq_281 nq_282 nq_283 nq_19 nq_284 (by decide +kernel) rfl rfl ⟨Nat.le_of_ble_eq_true rfl, Nat.le_of_ble_eq_true rfl, Nat.le_of_ble_eq_true rfl, Nat.le_of_ble_eq_true rfl⟩ (Nat.le_of_ble_eq_true rfl) dX8_keep_21 (fun σ21 h => ?_)
        refine ww_aload_n C 0 rfl dX8_keep_24 ?_
        refine ww_getR C (shc_0 hs) rfl inG8 4 (by decide) nq_24 rfl dX8_keep_25 ?_
        refine ww_iload_n C 1 rfl dX8_keep_28 ?_
        refine ww_iconst (v := 1) C dX8_keep_29 (by decide) ?_
        refine ww_zast C (shc_44 hs) h.1 dX8_keep_30 h.2 (fun σ30 h => ?_)
        refine ww_aload_n C 0 rfl dX8_keep_31 ?_
        refine ww_getR C (shc_0 hs) rfl inG8 1 (by decide) nq_20 rfl dX8_keep_32 ?_
        refine ww_getIN C (row_o (shr_3 hs)) rfl inG4 0 (by decide) (List.mem_of_getElem? (i := 12) rfl) rfl dX8_keep_35 ?_
        exact ww_iret C hr hlk h dX8_keep_38
      · refine ww_aald (r := 34) C (shc_23 hs) (by rw [hc]; unfold vp_in; decide) (by rw [hc]; rfl) dX8_keep_16 ?_
        have h := h.2.2 hc
        refine ww_aload_n C 0 rfl dX8_keep_17 ?_
        refine ww_getR C (shc_0 hs) rfl inG8 1 (by decide) nq_20 rfl dX8_keep_18 ?_
        refine ww_vv (n := 1) (As := [.ref 3]) (rest := []) C (c_X4_copy (shr_34 hs) (shr_3 hs) h) (row_o (shr_34 hs)) rfl nq_281 nq_282 nq_283 nq_19 nq_284 (by decide +kernel) rfl rfl ⟨Nat.le_of_ble_eq_true rfl, Nat.le_of_ble_eq_true rfl, Nat.le_of_ble_eq_true rfl, Nat.le_of_ble_eq_true rfl⟩ (Nat.le_of_ble_eq_true rfl) dX8_keep_21 (fun σ21 h => ?_)
        refine ww_aload_n C 0 rfl dX8_keep_24 ?_
        refine ww_getR C (shc_0 hs) rfl inG8 4 (by decide) nq_24 rfl dX8_keep_25 ?_
        refine ww_iload_n C 1 rfl dX8_keep_28 ?_
        refine ww_iconst (v := 1) C dX8_keep_29 (by decide) ?_
        refine ww_zast C (shc_44 hs) h.1 dX8_keep_30 h.2 (fun σ30 h => ?_)
        refine ww_aload_n C 0 rfl dX8_keep_31 ?_
        refine ww_getR C (shc_0 hs) rfl inG8 1 (by decide) nq_20 rfl dX8_keep_32 ?_
        refine ww_getIN C (row_o (shr_3 hs)) rfl inG4 0 (by decide) (List.mem_of_getElem? (i := 12) rfl) rfl dX8_keep_35 ?_
        exact ww_iret C hr hlk h dX8_keep_38
    · have h := h.2 hc
      refine ww_iconst (v := -1) C dX8_keep_9 (by decide) ?_
      exact ww_iret C hr hlk h dX8_keep_10
set_option maxRecDepth 100000 in
set_option maxHeartbeats 4000000 in
theorem c_X8_again {l : Launch} {dC : Nat → ClassId} {dI : Nat → Nat → Nat} {cA : Nat → ClassId} {al : Nat → Nat} {sh : List Kd} (hs : ShC sh) {σ : St} {a1 : Int32} {Q : Int32 → St → Prop} (h : m_X8_again σ a1 Q) : ∀ sz, Met l yX8_again (wd yX8_again cX8_again 2 (some .int)) (RM 4) (va_Pc ([.ref 0, .int a1].map (cv al)) (WPre dC dI cA al sh σ sz)) (va_Qi Q (WPost dC dI cA al sh (AW al sh sz)) (AW al sh sz)) 0 0 (AW al sh sz) := by
  refine ww_met (Qc := fun A => va_Qi Q (WPost dC dI cA al sh A) A) (by decide +kernel) (Nat.le_of_ble_eq_true rfl) (fun p e s m args below meth c A C hr hlk => ?_)
  show WW p l e (RM 4) s m args below meth c (MQ below (va_Qi Q (WPost dC dI cA al sh A) A) args s 0 0 A) dC dI cA A 2 0 0 al sh 0 [(0, .ref 0), (1, .int a1)] [] σ
  unfold m_X8_again at h
  refine ww_iload_n C 1 rfl dX8_again_0 ?_
  refine ww_if_lt (tgt := 9) C dX8_again_1 (by decide) (fun hc => ?_) (fun hc => ?_)
  · have h := h.1 hc
    refine ww_iconst (v := -1) C dX8_again_9 (by decide) ?_
    exact ww_iret C hr hlk h dX8_again_10
  · have h := h.2 hc
    refine ww_iload_n C 1 rfl dX8_again_4 ?_
    refine ww_iconst (v := 2) C dX8_again_5 (by decide) ?_
    refine ww_icmp_lt (tgt := 11) C dX8_again_6 (by decide) (fun hc => ?_) (fun hc => ?_)
    · have h := h.1 hc
      refine ww_aload_n C 0 rfl dX8_again_11 ?_
      refine ww_getR C (shc_0 hs) rfl inG8 4 (by decide) nq_24 rfl dX8_again_12 ?_
      refine ww_iload_n C 1 rfl dX8_again_15 ?_
      refine ww_zald C (shc_44 hs) h.1 dX8_again_16 ?_
      have h := h.2
      refine ww_if_ne (tgt := 23) C dX8_again_17 (by decide) (fun hc => ?_) (fun hc => ?_)
      · have h := h.1 hc
        refine ww_aload_n C 0 rfl dX8_again_23 ?_
        refine ww_getR C (shc_0 hs) rfl inG8 1 (by decide) nq_20 rfl dX8_again_24 ?_
        refine ww_aload_n C 0 rfl dX8_again_27 ?_
        refine ww_getR C (shc_0 hs) rfl inG8 3 (by decide) nq_22 rfl dX8_again_28 ?_
        refine ww_iload_n C 1 rfl dX8_again_31 ?_
        rcases h.1 with hc | hc
        · refine ww_aald (r := 24) C (shc_23 hs) (by rw [hc]; unfold vp_in; decide) (by rw [hc]; rfl) dX8_again_32 ?_
          have h := h.2.1 hc
          refine ww_vv (n := 1) (As := [.ref 24]) (rest := []) C (c_X4_copy (shr_3 hs) (shr_24 hs) h) (row_o (shr_3 hs)) rfl nq_281 nq_282 nq_283 nq_19 nq_284 (by decide +kernel) rfl rfl ⟨Nat.le_of_ble_eq_true rfl, Nat.le_of_ble_eq_true rfl, Nat.le_of_ble_eq_true rfl, Nat.le_of_ble_eq_true rfl⟩ (Nat.le_of_ble_eq_true rfl) dX8_again_33 (fun σ33 h => ?_)
          refine ww_aload_n C 0 rfl dX8_again_36 ?_
          refine ww_getR C (shc_0 hs) rfl inG8 5 (by decide) nq_28 rfl dX8_again_37 ?_
          refine ww_iconst (v := 0) C dX8_again_40 (by decide) ?_
          refine ww_putIN C (shc_45 hs) rfl inG0 0 (by decide) (List.mem_of_getElem? (i := 11) rfl) tyX0 tyX0_ok nmX0 rfl (by decide +kernel) rfl dX8_again_41 h (fun σ41 h => ?_)
          refine ww_aload_n C 0 rfl dX8_again_44 ?_
          refine ww_getR C (shc_0 hs) rfl inG8 1 (by decide) nq_20 rfl dX8_again_45 ?_
          refine ww_getIN C (row_o (shr_3 hs)) rfl inG4 0 (by decide) (List.mem_of_getElem? (i := 12) rfl) rfl dX8_again_48 ?_
          exact ww_iret C hr hlk h dX8_again_51
        · refine ww_aald (r := 34) C (shc_23 hs) (by rw [hc]; unfold vp_in; decide) (by rw [hc]; rfl) dX8_again_32 ?_
          have h := h.2.2 hc
          refine ww_vv (n := 1) (As := [.ref 34]) (rest := []) C (c_X4_copy (shr_3 hs) (shr_34 hs) h) (row_o (shr_3 hs)) rfl nq_281 nq_282 nq_283 nq_19 nq_284 (by decide +kernel) rfl rfl ⟨Nat.le_of_ble_eq_true rfl, Nat.le_of_ble_eq_true rfl, Nat.le_of_ble_eq_true rfl, Nat.le_of_ble_eq_true rfl⟩ (Nat.le_of_ble_eq_true rfl) dX8_again_33 (fun σ33 h => ?_)
          refine ww_aload_n C 0 rfl dX8_again_36 ?_
          refine ww_getR C (shc_0 hs) rfl inG8 5 (by decide) nq_28 rfl dX8_again_37 ?_
          refine ww_iconst (v := 0) C dX8_again_40 (by decide) ?_
          refine ww_putIN C (shc_45 hs) rfl inG0 0 (by decide) (List.mem_of_getElem? (i := 11) rfl) tyX0 tyX0_ok nmX0 rfl (by decide +kernel) rfl dX8_again_41 h (fun σ41 h => ?_)
          refine ww_aload_n C 0 rfl dX8_again_44 ?_
          refine ww_getR C (shc_0 hs) rfl inG8 1 (by decide) nq_20 rfl dX8_again_45 ?_
          refine ww_getIN C (row_o (shr_3 hs)) rfl inG4 0 (by decide) (List.mem_of_getElem? (i := 12) rfl) rfl dX8_again_48 ?_
          exact ww_iret C hr hlk h dX8_again_51
      · have h := h.2 hc
        refine ww_bipush (v := -3) C dX8_again_20 (by decide) ?_
        exact ww_iret C hr hlk h dX8_again_22
    · have h := h.2 hc
      refine ww_iconst (v := -1) C dX8_again_9 (by decide) ?_
      exact ww_iret C hr hlk h dX8_again_10
set_option maxRecDepth 100000 in
set_option maxHeartbeats 4000000 in
theorem c_X8_count {l : Launch} {dC : Nat → ClassId} {dI : Nat → Nat → Nat} {cA : Nat → ClassId} {al : Nat → Nat} {sh : List Kd} (hs : ShC sh) {σ : St} {a1 : Int32} {Q : Int32 → St → Prop} (h : m_X8_count σ a1 Q) : ∀ sz, Met l yX8_count (wd yX8_count cX8_count 2 (some .int)) (RM 5) (va_Pc ([.ref 0, .int a1].map (cv al)) (WPre dC dI cA al sh σ sz)) (va_Qi Q (WPost dC dI cA al sh (AW al sh sz)) (AW al sh sz)) 0 0 (AW al sh sz) := by
  refine ww_met (Qc := fun A => va_Qi Q (WPost dC dI cA al sh A) A) (by decide +kernel) (Nat.le_of_ble_eq_true rfl) (fun p e s m args below meth c A C hr hlk => ?_)
  show WW p l e (RM 5) s m args below meth c (MQ below (va_Qi Q (WPost dC dI cA al sh A) A) args s 0 0 A) dC dI cA A 2 0 0 al sh 0 [(0, .ref 0), (1, .int a1)] [] σ
  unfold m_X8_count at h
  refine ww_iload_n C 1 rfl dX8_count_0 ?_
  by_cases hc0 : a1 = 0
  · refine ww_table (off := 51) (tgt := 52) C dX8_count_1 (by rw [hc0]; decide) (by rw [hc0]; decide) (by rw [hc0]; rfl) (by decide) ?_
    have h := h.1 hc0
    refine ww_aload_n C 0 rfl dX8_count_52 ?_
    refine ww_getR C (shc_0 hs) rfl inG8 0 (by decide) nq_16 rfl dX8_count_53 ?_
    refine ww_getIN C (shc_1 hs) rfl inG6 0 (by decide) (List.mem_of_getElem? (i := 10) rfl) rfl dX8_count_56 ?_
    exact ww_iret C hr hlk h dX8_count_59
  · skip
    by_cases hc1 : a1 = 1
    · refine ww_table (off := 59) (tgt := 60) C dX8_count_1 (by rw [hc1]; decide) (by rw [hc1]; decide) (by rw [hc1]; rfl) (by decide) ?_
      have h := h.2.1 hc1
      refine ww_aload_n C 0 rfl dX8_count_60 ?_
      refine ww_getR C (shc_0 hs) rfl inG8 1 (by decide) nq_20 rfl dX8_count_61 ?_
      refine ww_getIN C (row_o (shr_3 hs)) rfl inG4 0 (by decide) (List.mem_of_getElem? (i := 12) rfl) rfl dX8_count_64 ?_
      exact ww_iret C hr hlk h dX8_count_67
    · skip
      by_cases hc2 : a1 = 2
      · refine ww_table (off := 67) (tgt := 68) C dX8_count_1 (by rw [hc2]; decide) (by rw [hc2]; decide) (by rw [hc2]; rfl) (by decide) ?_
        have h := h.2.2.1 hc2
        refine ww_aload_n C 0 rfl dX8_count_68 ?_
        refine ww_getR C (shc_0 hs) rfl inG8 1 (by decide) nq_20 rfl dX8_count_69 ?_
        refine ww_getRN C (row_o (shr_3 hs)) rfl inG4 8 (by decide) (List.mem_of_getElem? (i := 7) rfl) rfl dX8_count_72 ?_
        refine ww_getIN C (wld_o (row_w (shr_3 hs))) rfl inG7 0 (by decide) (List.mem_of_getElem? (i := 8) rfl) rfl dX8_count_75 ?_
        exact ww_iret C hr hlk h dX8_count_78
      · skip
        by_cases hc3 : a1 = 3
        · refine ww_table (off := 78) (tgt := 79) C dX8_count_1 (by rw [hc3]; decide) (by rw [hc3]; decide) (by rw [hc3]; rfl) (by decide) ?_
          have h := h.2.2.2.1 hc3
          refine ww_aload_n C 0 rfl dX8_count_79 ?_
          refine ww_getR C (shc_0 hs) rfl inG8 1 (by decide) nq_20 rfl dX8_count_80 ?_
          refine ww_getRN C (row_o (shr_3 hs)) rfl inG4 8 (by decide) (List.mem_of_getElem? (i := 7) rfl) rfl dX8_count_83 ?_
          refine ww_getIN C (wld_o (row_w (shr_3 hs))) rfl inG7 1 (by decide) (List.mem_of_getElem? (i := 9) rfl) rfl dX8_count_86 ?_
          exact ww_iret C hr hlk h dX8_count_89
        · skip
          by_cases hc4 : a1 = 4
          · refine ww_table (off := 89) (tgt := 90) C dX8_count_1 (by rw [hc4]; decide) (by rw [hc4]; decide) (by rw [hc4]; rfl) (by decide) ?_
            have h := h.2.2.2.2.1 hc4
            refine ww_aload_n C 0 rfl dX8_count_90 ?_
            refine ww_getR C (shc_0 hs) rfl inG8 1 (by decide) nq_20 rfl dX8_count_91 ?_
            refine ww_getRN C (row_o (shr_3 hs)) rfl inG4 8 (by decide) (List.mem_of_getElem? (i := 7) rfl) rfl dX8_count_94 ?_
            refine ww_vi (n := 0) (As := []) (rest := []) C (c_X7_allToWrite (row_w (shr_3 hs)) h) (wld_o (row_w (shr_3 hs))) rfl nq_869 nq_193 nq_194 nq_60 nq_195 (by decide +kernel) rfl rfl ⟨Nat.le_of_ble_eq_true rfl, Nat.le_of_ble_eq_true rfl, Nat.le_of_ble_eq_true rfl, Nat.le_of_ble_eq_true rfl⟩ (Nat.le_of_ble_eq_true rfl) dX8_count_97 (fun r97 σ97 h => ?_)
            refine ww_aload_n C 0 rfl dX8_count_100 ?_
            refine ww_getR C (shc_0 hs) rfl inG8 1 (by decide) nq_20 rfl dX8_count_101 ?_
            refine ww_getRN C (row_o (shr_3 hs)) rfl inG4 8 (by decide) (List.mem_of_getElem? (i := 7) rfl) rfl dX8_count_104 ?_
            refine ww_vi (n := 0) (As := []) (rest := [.int r97]) C (c_X7_allToRead (row_w (shr_3 hs)) h) (wld_o (row_w (shr_3 hs))) rfl nq_870 nq_197 nq_198 nq_60 nq_199 (by decide +kernel) rfl rfl ⟨Nat.le_of_ble_eq_true rfl, Nat.le_of_ble_eq_true rfl, Nat.le_of_ble_eq_true rfl, Nat.le_of_ble_eq_true rfl⟩ (Nat.le_of_ble_eq_true rfl) dX8_count_107 (fun r107 σ107 h => ?_)
            refine ww_ior C dX8_count_110 ?_
            exact ww_iret C hr hlk h dX8_count_111
          · skip
            by_cases hc5 : a1 = 5
            · refine ww_table (off := 111) (tgt := 112) C dX8_count_1 (by rw [hc5]; decide) (by rw [hc5]; decide) (by rw [hc5]; rfl) (by decide) ?_
              have h := h.2.2.2.2.2.1 hc5
              refine ww_aload_n C 0 rfl dX8_count_112 ?_
              refine ww_getR C (shc_0 hs) rfl inG8 1 (by decide) nq_20 rfl dX8_count_113 ?_
              refine ww_bipush (v := 15) C dX8_count_116 (by decide) ?_
              refine ww_si (n := 2) (As := [.ref 3, .int 15]) (rest := []) C (c_X1_flaggedBits (shr_3 hs) h) nq_871 nq_762 nq_438 nq_763 (by decide +kernel) rfl rfl ⟨Nat.le_of_ble_eq_true rfl, Nat.le_of_ble_eq_true rfl, Nat.le_of_ble_eq_true rfl, Nat.le_of_ble_eq_true rfl⟩ (Nat.le_of_ble_eq_true rfl) dX8_count_118 (fun r118 σ118 h => ?_)
              exact ww_iret C hr hlk h dX8_count_121
            · skip
              by_cases hc6 : a1 = 6
              · refine ww_table (off := 121) (tgt := 122) C dX8_count_1 (by rw [hc6]; decide) (by rw [hc6]; decide) (by rw [hc6]; rfl) (by decide) ?_
                have h := h.2.2.2.2.2.2.1 hc6
                refine ww_aload_n C 0 rfl dX8_count_122 ?_
                refine ww_getR C (shc_0 hs) rfl inG8 1 (by decide) nq_20 rfl dX8_count_123 ?_
                refine ww_si (n := 1) (As := [.ref 3]) (rest := []) C (c_X1_meetingBits (shr_3 hs) h) nq_872 nq_873 nq_438 nq_874 (by decide +kernel) rfl rfl ⟨Nat.le_of_ble_eq_true rfl, Nat.le_of_ble_eq_true rfl, Nat.le_of_ble_eq_true rfl, Nat.le_of_ble_eq_true rfl⟩ (Nat.le_of_ble_eq_true rfl) dX8_count_126 (fun r126 σ126 h => ?_)
                exact ww_iret C hr hlk h dX8_count_129
              · skip
                by_cases hc7 : a1 = 7
                · refine ww_table (off := 129) (tgt := 130) C dX8_count_1 (by rw [hc7]; decide) (by rw [hc7]; decide) (by rw [hc7]; rfl) (by decide) ?_
                  have h := h.2.2.2.2.2.2.2.1 hc7
                  refine ww_aload_n C 0 rfl dX8_count_130 ?_
                  refine ww_getR C (shc_0 hs) rfl inG8 5 (by decide) nq_28 rfl dX8_count_131 ?_
                  refine ww_getIN C (shc_45 hs) rfl inG0 0 (by decide) (List.mem_of_getElem? (i := 11) rfl) rfl dX8_count_134 ?_
                  exact ww_iret C hr hlk h dX8_count_137
                · skip
                  by_cases hc8 : a1 = 8
                  · refine ww_table (off := 137) (tgt := 138) C dX8_count_1 (by rw [hc8]; decide) (by rw [hc8]; decide) (by rw [hc8]; rfl) (by decide) ?_
                    have h := h.2.2.2.2.2.2.2.2.1 hc8
                    refine ww_aload_n C 0 rfl dX8_count_138 ?_
                    refine ww_getR C (shc_0 hs) rfl inG8 6 (by decide) nq_32 rfl dX8_count_139 ?_
                    refine ww_getIN C (shc_48 hs) rfl inG5 0 (by decide) (List.mem_of_getElem? (i := 5) rfl) rfl dX8_count_142 ?_
                    exact ww_iret C hr hlk h dX8_count_145
                  · skip
                    have nhc0 := ne_toInt (n := 0) hc0
                    have nhc1 := ne_toInt (n := 1) hc1
                    have nhc2 := ne_toInt (n := 2) hc2
                    have nhc3 := ne_toInt (n := 3) hc3
                    have nhc4 := ne_toInt (n := 4) hc4
                    have nhc5 := ne_toInt (n := 5) hc5
                    have nhc6 := ne_toInt (n := 6) hc6
                    have nhc7 := ne_toInt (n := 7) hc7
                    have nhc8 := ne_toInt (n := 8) hc8
                    refine ww_tableO (tgt := 146) C dX8_count_1 (by omega) (by decide) ?_
                    have h := h.2.2.2.2.2.2.2.2.2 ⟨hc0, hc1, hc2, hc3, hc4, hc5, hc6, hc7, hc8⟩
                    refine ww_bipush (v := -2) C dX8_count_146 (by decide) ?_
                    exact ww_iret C hr hlk h dX8_count_148
set_option maxRecDepth 100000 in
set_option maxHeartbeats 4000000 in
theorem c_X9_in {l : Launch} {dC : Nat → ClassId} {dI : Nat → Nat → Nat} {cA : Nat → ClassId} {al : Nat → Nat} {sh : List Kd} (hs : ShC sh) {σ : St} {a0 : Int64} {a2 : Int64} {a4 : Int64} {Q : Int32 → St → Prop} (h : m_X9_in σ a0 a2 a4 Q) : ∀ sz, Met l yX9_in (wd yX9_in cX9_in 6 (some .boolean)) (RM 0) (va_Pc ([.long a0, .long a2, .long a4].map (cv al)) (WPre dC dI cA al sh σ sz)) (va_Qi Q (WPost dC dI cA al sh (AW al sh sz)) (AW al sh sz)) 0 0 (AW al sh sz) := by
  refine ww_met (Qc := fun A => va_Qi Q (WPost dC dI cA al sh A) A) (by decide +kernel) (Nat.le_of_ble_eq_true rfl) (fun p e s m args below meth c A C hr hlk => ?_)
  show WW p l e (RM 0) s m args below meth c (MQ below (va_Qi Q (WPost dC dI cA al sh A) A) args s 0 0 A) dC dI cA A 6 0 0 al sh 0 [(0, .long a0), (2, .long a2), (4, .long a4)] [] σ
  unfold m_X9_in at h
  refine ww_lload_n C 0 rfl dX9_in_0 ?_
  refine ww_lload_n C 1 rfl dX9_in_1 ?_
  refine ww_lcmp C dX9_in_2 ?_
  refine ww_if_lt (tgt := 17) C dX9_in_3 (by decide) (fun hc => ?_) (fun hc => ?_)
  · have h := h.1 hc
    refine ww_iconst (v := 0) C dX9_in_17 (by decide) ?_
    exact ww_zret C hr hlk (by decide) h dX9_in_18
  · have h := h.2 hc
    refine ww_lload_n C 0 rfl dX9_in_6 ?_
    refine ww_lload C 2 rfl dX9_in_7 ?_
    refine ww_lcmp C dX9_in_9 ?_
    refine ww_if_gt (tgt := 17) C dX9_in_10 (by decide) (fun hc => ?_) (fun hc => ?_)
    · have h := h.1 hc
      refine ww_iconst (v := 0) C dX9_in_17 (by decide) ?_
      exact ww_zret C hr hlk (by decide) h dX9_in_18
    · have h := h.2 hc
      refine ww_iconst (v := 1) C dX9_in_13 (by decide) ?_
      refine ww_goto (tgt := 18) C dX9_in_14 (by decide) ?_
      exact ww_zret C hr hlk (by decide) h dX9_in_18
set_option maxRecDepth 100000 in
set_option maxHeartbeats 4000000 in
theorem c_X9_has {l : Launch} {dC : Nat → ClassId} {dI : Nat → Nat → Nat} {cA : Nat → ClassId} {al : Nat → Nat} {sh : List Kd} (hs : ShC sh) {σ : St} {a0 : Int32} {a1 : Int32} {Q : Int32 → St → Prop} (h : m_X9_has σ a0 a1 Q) : ∀ sz, Met l yX9_has (wd yX9_has cX9_has 2 (some .boolean)) (RM 0) (va_Pc ([.int a0, .int a1].map (cv al)) (WPre dC dI cA al sh σ sz)) (va_Qi Q (WPost dC dI cA al sh (AW al sh sz)) (AW al sh sz)) 0 0 (AW al sh sz) := by
  refine ww_met (Qc := fun A => va_Qi Q (WPost dC dI cA al sh A) A) (by decide +kernel) (Nat.le_of_ble_eq_true rfl) (fun p e s m args below meth c A C hr hlk => ?_)
  show WW p l e (RM 0) s m args below meth c (MQ below (va_Qi Q (WPost dC dI cA al sh A) A) args s 0 0 A) dC dI cA A 2 0 0 al sh 0 [(0, .int a0), (1, .int a1)] [] σ
  unfold m_X9_has at h
  refine ww_iload_n C 0 rfl dX9_has_0 ?_
  refine ww_iload_n C 1 rfl dX9_has_1 ?_
  refine ww_ishr C dX9_has_2 ?_
  refine ww_iconst (v := 1) C dX9_has_3 (by decide) ?_
  refine ww_iand C dX9_has_4 ?_
  refine ww_iconst (v := 1) C dX9_has_5 (by decide) ?_
  refine ww_icmp_ne (tgt := 13) C dX9_has_6 (by decide) (fun hc => ?_) (fun hc => ?_)
  · have h := h.1 hc
    refine ww_iconst (v := 0) C dX9_has_13 (by decide) ?_
    exact ww_zret C hr hlk (by decide) h dX9_has_14
  · have h := h.2 hc
    refine ww_iconst (v := 1) C dX9_has_9 (by decide) ?_
    refine ww_goto (tgt := 14) C dX9_has_10 (by decide) ?_
    exact ww_zret C hr hlk (by decide) h dX9_has_14
set_option maxRecDepth 100000 in
set_option maxHeartbeats 4000000 in
theorem w_X9_ones_L4b {p : Program} {l : Launch} {e : Env} {s : State} {m : MethodId} {args : Array Value} {below : List Frame} {meth : Method} {c : Code} {dC : Nat → ClassId} {dI : Nat → Nat → Nat} {cA : Nat → ClassId} {A : Nat → Prop} {al : Nat → Nat} {sh : List Kd} (C : Fx p s m args c cX9_ones 3 yX9_ones.cls dC dI cA A al) (hr : meth.sig.returnType = some .int) (hlk : meth.locks = false) (hs : ShC sh) {a0 : Int32} {Q : Int32 → St → Prop} {K24 : St → Int32 → Prop} (hK24 : ∀ (σ : St) (x1 : Int32), K24 σ x1 → WW p l e (RM 0) s m args below meth c (MQ below (va_Qi Q (WPost dC dI cA al sh A) A) args s 0 0 A) dC dI cA A 3 0 0 al sh 24 [(1, .int x1)] [] σ) {Rc : St → Int32 → Int32 → Prop} (hRc : ∀ (σ : St) (x1 : Int32) (x2 : Int32), Rc σ x1 x2 → WW p l e (RM 0) s m args below meth c (MQ below (va_Qi Q (WPost dC dI cA al sh A) A) args s 0 0 A) dC dI cA A 3 0 0 al sh 4 [(0, .int a0), (1, .int x1), (2, .int x2)] [] σ) {σ : St} {x1 : Int32} {x2 : Int32} (h : m_X9_ones_L4b a0 Q K24 Rc σ x1 x2) : WW p l e (RM 0) s m args below meth c (MQ below (va_Qi Q (WPost dC dI cA al sh A) A) args s 0 0 A) dC dI cA A 3 0 0 al sh 4 [(0, .int a0), (1, .int x1), (2, .int x2)] [] σ := by
  unfold m_X9_ones_L4b at h
  refine ww_iload_n C 2 rfl dX9_ones_4 ?_
  refine ww_bipush (v := 20) C dX9_ones_5 (by decide) ?_
  refine ww_icmp_ge (tgt := 24) C dX9_ones_7 (by decide) (fun hc => ?_) (fun hc => ?_)
  · have h := h.1 hc
    refine ww_sub [1] rfl ?_
    exact hK24 _ _ h
  · have h := h.2 hc
    refine ww_iload_n C 1 rfl dX9_ones_10 ?_
    refine ww_iload_n C 0 rfl dX9_ones_11 ?_
    refine ww_iload_n C 2 rfl dX9_ones_12 ?_
    refine ww_ishr C dX9_ones_13 ?_
    refine ww_iconst (v := 1) C dX9_ones_14 (by decide) ?_
    refine ww_iand C dX9_ones_15 ?_
    refine ww_iadd C dX9_ones_16 ?_
    refine ww_nmI h (fun y17 h => ?_)
    refine ww_istore_n (lv' := [(1, .int y17), (0, .int a0), (2, .int x2)]) C dX9_ones_17 rfl (by decide) rfl ?_
    refine ww_iinc (v := (x2 + 1)) (lv' := [(2, .int (x2 + 1)), (1, .int y17), (0, .int a0)]) C 2 rfl dX9_ones_18 rfl (by decide) rfl ?_
    refine ww_goto (tgt := 4) C dX9_ones_21 (by decide) ?_
    refine ww_sub [2, 1, 0] rfl ?_
    exact hRc _ _ _ h
set_option maxRecDepth 100000 in
set_option maxHeartbeats 4000000 in
theorem w_X9_ones_L4 {p : Program} {l : Launch} {e : Env} {s : State} {m : MethodId} {args : Array Value} {below : List Frame} {meth : Method} {c : Code} {dC : Nat → ClassId} {dI : Nat → Nat → Nat} {cA : Nat → ClassId} {A : Nat → Prop} {al : Nat → Nat} {sh : List Kd} (C : Fx p s m args c cX9_ones 3 yX9_ones.cls dC dI cA A al) (hr : meth.sig.returnType = some .int) (hlk : meth.locks = false) (hs : ShC sh) {a0 : Int32} {Q : Int32 → St → Prop} {K24 : St → Int32 → Prop} (hK24 : ∀ (σ : St) (x1 : Int32), K24 σ x1 → WW p l e (RM 0) s m args below meth c (MQ below (va_Qi Q (WPost dC dI cA al sh A) A) args s 0 0 A) dC dI cA A 3 0 0 al sh 24 [(1, .int x1)] [] σ) : ∀ (f : Nat) (σ : St) (x1 : Int32) (x2 : Int32), m_X9_ones_L4 a0 Q K24 f σ x1 x2 → WW p l e (RM 0) s m args below meth c (MQ below (va_Qi Q (WPost dC dI cA al sh A) A) args s 0 0 A) dC dI cA A 3 0 0 al sh 4 [(0, .int a0), (1, .int x1), (2, .int x2)] [] σ := by
  intro f
  induction f with
  | zero => intro σ x1 x2 h; exact False.elim h
  | succ f ih => intro σ x1 x2 h; exact w_X9_ones_L4b (Q := Q) (a0 := a0) C hr hlk hs hK24 ih h
set_option maxRecDepth 100000 in
set_option maxHeartbeats 4000000 in
theorem w_X9_ones_J24 {p : Program} {l : Launch} {e : Env} {s : State} {m : MethodId} {args : Array Value} {below : List Frame} {meth : Method} {c : Code} {dC : Nat → ClassId} {dI : Nat → Nat → Nat} {cA : Nat → ClassId} {A : Nat → Prop} {al : Nat → Nat} {sh : List Kd} (C : Fx p s m args c cX9_ones 3 yX9_ones.cls dC dI cA A al) (hr : meth.sig.returnType = some .int) (hlk : meth.locks = false) (hs : ShC sh) {a0 : Int32} {Q : Int32 → St → Prop} {σ : St} {x1 : Int32} (h : m_X9_ones_J24 a0 Q σ x1) : WW p l e (RM 0) s m args below meth c (MQ below (va_Qi Q (WPost dC dI cA al sh A) A) args s 0 0 A) dC dI cA A 3 0 0 al sh 24 [(1, .int x1)] [] σ := by
  unfold m_X9_ones_J24 at h
  refine ww_iload_n C 0 rfl dX9_ones_24 ?_
  exact ww_iret C hr hlk h dX9_ones_25
set_option maxRecDepth 100000 in
set_option maxHeartbeats 4000000 in
theorem c_X9_ones {l : Launch} {dC : Nat → ClassId} {dI : Nat → Nat → Nat} {cA : Nat → ClassId} {al : Nat → Nat} {sh : List Kd} (hs : ShC sh) {σ : St} {a0 : Int32} {Q : Int32 → St → Prop} (h : m_X9_ones σ a0 Q) : ∀ sz, Met l yX9_ones (wd yX9_ones cX9_ones 3 (some .int)) (RM 0) (va_Pc ([.int a0].map (cv al)) (WPre dC dI cA al sh σ sz)) (va_Qi Q (WPost dC dI cA al sh (AW al sh sz)) (AW al sh sz)) 0 0 (AW al sh sz) := by
  refine ww_met (Qc := fun A => va_Qi Q (WPost dC dI cA al sh A) A) (by decide +kernel) (Nat.le_of_ble_eq_true rfl) (fun p e s m args below meth c A C hr hlk => ?_)
  show WW p l e (RM 0) s m args below meth c (MQ below (va_Qi Q (WPost dC dI cA al sh A) A) args s 0 0 A) dC dI cA A 3 0 0 al sh 0 [(0, .int a0)] [] σ
  unfold m_X9_ones at h
  refine ww_iconst (v := 0) C dX9_ones_0 (by decide) ?_
  refine ww_istore_n (lv' := [(1, .int 0), (0, .int a0)]) C dX9_ones_1 rfl (by decide) rfl ?_
  refine ww_iconst (v := 0) C dX9_ones_2 (by decide) ?_
  refine ww_istore_n (lv' := [(2, .int 0), (1, .int 0), (0, .int a0)]) C dX9_ones_3 rfl (by decide) rfl ?_
  refine ww_sub [2, 1, 0] rfl ?_
  obtain ⟨f, h⟩ := h
  exact w_X9_ones_L4 (Q := Q) (a0 := a0) C hr hlk hs (fun σ x1 h => by exact w_X9_ones_J24 (Q := Q) (a0 := a0) C hr hlk hs h) f _ _ _ h
set_option maxRecDepth 100000 in
set_option maxHeartbeats 4000000 in
theorem w_X9_begin_L2b {p : Program} {l : Launch} {e : Env} {s : State} {m : MethodId} {args : Array Value} {below : List Frame} {meth : Method} {c : Code} {dC : Nat → ClassId} {dI : Nat → Nat → Nat} {cA : Nat → ClassId} {A : Nat → Prop} {al : Nat → Nat} {sh : List Kd} (C : Fx p s m args c cX9_begin 2 yX9_begin.cls dC dI cA A al) (hr : meth.sig.returnType = none) (hlk : meth.locks = false) (hs : ShC sh) {Q : St → Prop} {K27 : St → Prop} (hK27 : ∀ (σ : St), K27 σ → WW p l e (RM 0) s m args below meth c (MQ below (va_Qv Q (WPost dC dI cA al sh A) A) args s 0 0 A) dC dI cA A 2 0 0 al sh 27 [(0, .ref 61)] [] σ) {Rc : St → Int32 → Prop} (hRc : ∀ (σ : St) (x1 : Int32), Rc σ x1 → WW p l e (RM 0) s m args below meth c (MQ below (va_Qv Q (WPost dC dI cA al sh A) A) args s 0 0 A) dC dI cA A 2 0 0 al sh 2 [(0, .ref 61), (1, .int x1)] [] σ) {σ : St} {x1 : Int32} (h : m_X9_begin_L2b Q K27 Rc σ x1) : WW p l e (RM 0) s m args below meth c (MQ below (va_Qv Q (WPost dC dI cA al sh A) A) args s 0 0 A) dC dI cA A 2 0 0 al sh 2 [(0, .ref 61), (1, .int x1)] [] σ := by
  unfold m_X9_begin_L2b at h
  refine ww_iload_n C 1 rfl dX9_begin_2 ?_
  refine ww_iconst (v := 4) C dX9_begin_3 (by decide) ?_
  refine ww_icmp_ge (tgt := 27) C dX9_begin_4 (by decide) (fun hc => ?_) (fun hc => ?_)
  · have h := h.1 hc
    refine ww_sub [0] rfl ?_
    exact hK27 _ h
  · have h := h.2 hc
    refine ww_aload_n C 0 rfl dX9_begin_7 ?_
    refine ww_getR C (shc_61 hs) rfl inG9 0 (by decide) nq_121 rfl dX9_begin_8 ?_
    refine ww_iload_n C 1 rfl dX9_begin_11 ?_
    refine ww_iconst (v := 0) C dX9_begin_12 (by decide) ?_
    refine ww_iast C (shc_62 hs) h.1 dX9_begin_13 h.2 (fun σ13 h => ?_)
    refine ww_aload_n C 0 rfl dX9_begin_14 ?_
    refine ww_getR C (shc_61 hs) rfl inG9 1 (by decide) nq_122 rfl dX9_begin_15 ?_
    refine ww_iload_n C 1 rfl dX9_begin_18 ?_
    refine ww_iconst (v := 0) C dX9_begin_19 (by decide) ?_
    refine ww_iast C (shc_63 hs) h.1 dX9_begin_20 h.2 (fun σ20 h => ?_)
    refine ww_iinc (v := (x1 + 1)) (lv' := [(1, .int (x1 + 1)), (0, .ref 61)]) C 1 rfl dX9_begin_21 rfl (by decide) rfl ?_
    refine ww_goto (tgt := 2) C dX9_begin_24 (by decide) ?_
    refine ww_sub [1, 0] rfl ?_
    exact hRc _ _ h
set_option maxRecDepth 100000 in
set_option maxHeartbeats 4000000 in
theorem w_X9_begin_L2 {p : Program} {l : Launch} {e : Env} {s : State} {m : MethodId} {args : Array Value} {below : List Frame} {meth : Method} {c : Code} {dC : Nat → ClassId} {dI : Nat → Nat → Nat} {cA : Nat → ClassId} {A : Nat → Prop} {al : Nat → Nat} {sh : List Kd} (C : Fx p s m args c cX9_begin 2 yX9_begin.cls dC dI cA A al) (hr : meth.sig.returnType = none) (hlk : meth.locks = false) (hs : ShC sh) {Q : St → Prop} {K27 : St → Prop} (hK27 : ∀ (σ : St), K27 σ → WW p l e (RM 0) s m args below meth c (MQ below (va_Qv Q (WPost dC dI cA al sh A) A) args s 0 0 A) dC dI cA A 2 0 0 al sh 27 [(0, .ref 61)] [] σ) : ∀ (f : Nat) (σ : St) (x1 : Int32), m_X9_begin_L2 Q K27 f σ x1 → WW p l e (RM 0) s m args below meth c (MQ below (va_Qv Q (WPost dC dI cA al sh A) A) args s 0 0 A) dC dI cA A 2 0 0 al sh 2 [(0, .ref 61), (1, .int x1)] [] σ := by
  intro f
  induction f with
  | zero => intro σ x1 h; exact False.elim h
  | succ f ih => intro σ x1 h; exact w_X9_begin_L2b (Q := Q) C hr hlk hs hK27 ih h
set_option maxRecDepth 100000 in
set_option maxHeartbeats 4000000 in
theorem w_X9_begin_J27 {p : Program} {l : Launch} {e : Env} {s : State} {m : MethodId} {args : Array Value} {below : List Frame} {meth : Method} {c : Code} {dC : Nat → ClassId} {dI : Nat → Nat → Nat} {cA : Nat → ClassId} {A : Nat → Prop} {al : Nat → Nat} {sh : List Kd} (C : Fx p s m args c cX9_begin 2 yX9_begin.cls dC dI cA A al) (hr : meth.sig.returnType = none) (hlk : meth.locks = false) (hs : ShC sh) {Q : St → Prop} {σ : St} (h : m_X9_begin_J27 Q σ) : WW p l e (RM 0) s m args below meth c (MQ below (va_Qv Q (WPost dC dI cA al sh A) A) args s 0 0 A) dC dI cA A 2 0 0 al sh 27 [(0, .ref 61)] [] σ := by
  unfold m_X9_begin_J27 at h
  refine ww_aload_n C 0 rfl dX9_begin_27 ?_
  refine ww_iconst (v := 1) C dX9_begin_28 (by decide) ?_
  refine ww_putI C (shc_61 hs) rfl inG9 2 (by decide) nq_237 tyX9 tyX9_ok nmX9 rfl (by decide +kernel) rfl dX9_begin_29 h (fun σ29 h => ?_)
  refine ww_aload_n C 0 rfl dX9_begin_32 ?_
  refine ww_iconst (v := 0) C dX9_begin_33 (by decide) ?_
  refine ww_putI C (shc_61 hs) rfl inG9 3 (by decide) nq_238 tyX9 tyX9_ok nmX9 rfl (by decide +kernel) rfl dX9_begin_34 h (fun σ34 h => ?_)
  exact ww_vret C hr hlk h dX9_begin_37
set_option maxRecDepth 100000 in
set_option maxHeartbeats 4000000 in
theorem c_X9_begin {l : Launch} {dC : Nat → ClassId} {dI : Nat → Nat → Nat} {cA : Nat → ClassId} {al : Nat → Nat} {sh : List Kd} (hs : ShC sh) {σ : St} {Q : St → Prop} (h : m_X9_begin σ Q) : ∀ sz, Met l yX9_begin (wd yX9_begin cX9_begin 2 none) (RM 0) (va_Pc ([.ref 61].map (cv al)) (WPre dC dI cA al sh σ sz)) (va_Qv Q (WPost dC dI cA al sh (AW al sh sz)) (AW al sh sz)) 0 0 (AW al sh sz) := by
  refine ww_met (Qc := fun A => va_Qv Q (WPost dC dI cA al sh A) A) (by decide +kernel) (Nat.le_of_ble_eq_true rfl) (fun p e s m args below meth c A C hr hlk => ?_)
  show WW p l e (RM 0) s m args below meth c (MQ below (va_Qv Q (WPost dC dI cA al sh A) A) args s 0 0 A) dC dI cA A 2 0 0 al sh 0 [(0, .ref 61)] [] σ
  unfold m_X9_begin at h
  refine ww_iconst (v := 0) C dX9_begin_0 (by decide) ?_
  refine ww_istore_n (lv' := [(1, .int 0), (0, .ref 61)]) C dX9_begin_1 rfl (by decide) rfl ?_
  refine ww_sub [1, 0] rfl ?_
  obtain ⟨f, h⟩ := h
  exact w_X9_begin_L2 (Q := Q) C hr hlk hs (fun σ h => by exact w_X9_begin_J27 (Q := Q) C hr hlk hs h) f _ _ h
set_option maxRecDepth 100000 in
set_option maxHeartbeats 4000000 in
theorem c_X9_isRunning {l : Launch} {dC : Nat → ClassId} {dI : Nat → Nat → Nat} {cA : Nat → ClassId} {al : Nat → Nat} {sh : List Kd} (hs : ShC sh) {σ : St} {a1 : Int32} {Q : Int32 → St → Prop} (h : m_X9_isRunning σ a1 Q) : ∀ sz, Met l yX9_isRunning (wd yX9_isRunning cX9_isRunning 2 (some .boolean)) (RM 1) (va_Pc ([.ref 61, .int a1].map (cv al)) (WPre dC dI cA al sh σ sz)) (va_Qi Q (WPost dC dI cA al sh (AW al sh sz)) (AW al sh sz)) 0 0 (AW al sh sz) := by
  refine ww_met (Qc := fun A => va_Qi Q (WPost dC dI cA al sh A) A) (by decide +kernel) (Nat.le_of_ble_eq_true rfl) (fun p e s m args below meth c A C hr hlk => ?_)
  show WW p l e (RM 1) s m args below meth c (MQ below (va_Qi Q (WPost dC dI cA al sh A) A) args s 0 0 A) dC dI cA A 2 0 0 al sh 0 [(0, .ref 61), (1, .int a1)] [] σ
  unfold m_X9_isRunning at h
  refine ww_iload_n C 1 rfl dX9_isRunning_0 ?_
  refine ww_i2l C dX9_isRunning_1 ?_
  refine ww_lconst (v := 0) C dX9_isRunning_2 (by decide) ?_
  refine ww_ldc2 (v := 3) C nq_243 dX9_isRunning_3 ?_
  refine ww_si (n := 3) (As := [.long (a1.toInt64), .long 0, .long 3]) (rest := []) C (c_X9_in hs h) nq_159 nq_160 nq_5 nq_161 (by decide +kernel) rfl rfl ⟨Nat.le_of_ble_eq_true rfl, Nat.le_of_ble_eq_true rfl, Nat.le_of_ble_eq_true rfl, Nat.le_of_ble_eq_true rfl⟩ (Nat.le_of_ble_eq_true rfl) dX9_isRunning_6 (fun r6 σ6 h => ?_)
  refine ww_if_eq (tgt := 38) C dX9_isRunning_9 (by decide) (fun hc => ?_) (fun hc => ?_)
  · have h := h.1 hc
    refine ww_iconst (v := 0) C dX9_isRunning_38 (by decide) ?_
    exact ww_zret C hr hlk (by decide) h dX9_isRunning_39
  · have h := h.2 hc
    refine ww_aload_n C 0 rfl dX9_isRunning_12 ?_
    refine ww_getI C (shc_61 hs) rfl inG9 2 (by decide) nq_237 rfl dX9_isRunning_13 ?_
    refine ww_iload_n C 1 rfl dX9_isRunning_16 ?_
    refine ww_si (n := 2) (As := [.int (σ6.1 61 2), .int a1]) (rest := []) C (c_X9_has hs h) nq_244 nq_245 nq_5 nq_246 (by decide +kernel) rfl rfl ⟨Nat.le_of_ble_eq_true rfl, Nat.le_of_ble_eq_true rfl, Nat.le_of_ble_eq_true rfl, Nat.le_of_ble_eq_true rfl⟩ (Nat.le_of_ble_eq_true rfl) dX9_isRunning_17 (fun r17 σ17 h => ?_)
    refine ww_if_eq (tgt := 38) C dX9_isRunning_20 (by decide) (fun hc => ?_) (fun hc => ?_)
    · have h := h.1 hc
      refine ww_iconst (v := 0) C dX9_isRunning_38 (by decide) ?_
      exact ww_zret C hr hlk (by decide) h dX9_isRunning_39
    · have h := h.2 hc
      refine ww_aload_n C 0 rfl dX9_isRunning_23 ?_
      refine ww_getI C (shc_61 hs) rfl inG9 3 (by decide) nq_238 rfl dX9_isRunning_24 ?_
      refine ww_iload_n C 1 rfl dX9_isRunning_27 ?_
      refine ww_si (n := 2) (As := [.int (σ17.1 61 3), .int a1]) (rest := []) C (c_X9_has hs h) nq_244 nq_245 nq_5 nq_246 (by decide +kernel) rfl rfl ⟨Nat.le_of_ble_eq_true rfl, Nat.le_of_ble_eq_true rfl, Nat.le_of_ble_eq_true rfl, Nat.le_of_ble_eq_true rfl⟩ (Nat.le_of_ble_eq_true rfl) dX9_isRunning_28 (fun r28 σ28 h => ?_)
      refine ww_if_ne (tgt := 38) C dX9_isRunning_31 (by decide) (fun hc => ?_) (fun hc => ?_)
      · have h := h.1 hc
        refine ww_iconst (v := 0) C dX9_isRunning_38 (by decide) ?_
        exact ww_zret C hr hlk (by decide) h dX9_isRunning_39
      · have h := h.2 hc
        refine ww_iconst (v := 1) C dX9_isRunning_34 (by decide) ?_
        refine ww_goto (tgt := 39) C dX9_isRunning_35 (by decide) ?_
        exact ww_zret C hr hlk (by decide) h dX9_isRunning_39
set_option maxRecDepth 100000 in
set_option maxHeartbeats 4000000 in
theorem c_X9_writeHeld {l : Launch} {dC : Nat → ClassId} {dI : Nat → Nat → Nat} {cA : Nat → ClassId} {al : Nat → Nat} {sh : List Kd} (hs : ShC sh) {σ : St} {Q : Int32 → St → Prop} (h : m_X9_writeHeld σ Q) : ∀ sz, Met l yX9_writeHeld (wd yX9_writeHeld cX9_writeHeld 1 (some .int)) (RM 0) (va_Pc ([.ref 61].map (cv al)) (WPre dC dI cA al sh σ sz)) (va_Qi Q (WPost dC dI cA al sh (AW al sh sz)) (AW al sh sz)) 0 0 (AW al sh sz) := by
  refine ww_met (Qc := fun A => va_Qi Q (WPost dC dI cA al sh A) A) (by decide +kernel) (Nat.le_of_ble_eq_true rfl) (fun p e s m args below meth c A C hr hlk => ?_)
  show WW p l e (RM 0) s m args below meth c (MQ below (va_Qi Q (WPost dC dI cA al sh A) A) args s 0 0 A) dC dI cA A 1 0 0 al sh 0 [(0, .ref 61)] [] σ
  unfold m_X9_writeHeld at h
  refine ww_aload_n C 0 rfl dX9_writeHeld_0 ?_
  refine ww_getR C (shc_61 hs) rfl inG9 0 (by decide) nq_121 rfl dX9_writeHeld_1 ?_
  refine ww_iconst (v := 0) C dX9_writeHeld_4 (by decide) ?_
  refine ww_iald C (shc_62 hs) (by unfold vp_in; decide) dX9_writeHeld_5 ?_
  refine ww_aload_n C 0 rfl dX9_writeHeld_6 ?_
  refine ww_getR C (shc_61 hs) rfl inG9 0 (by decide) nq_121 rfl dX9_writeHeld_7 ?_
  refine ww_iconst (v := 1) C dX9_writeHeld_10 (by decide) ?_
  refine ww_iald C (shc_62 hs) (by unfold vp_in; decide) dX9_writeHeld_11 ?_
  refine ww_ior C dX9_writeHeld_12 ?_
  refine ww_aload_n C 0 rfl dX9_writeHeld_13 ?_
  refine ww_getR C (shc_61 hs) rfl inG9 0 (by decide) nq_121 rfl dX9_writeHeld_14 ?_
  refine ww_iconst (v := 2) C dX9_writeHeld_17 (by decide) ?_
  refine ww_iald C (shc_62 hs) (by unfold vp_in; decide) dX9_writeHeld_18 ?_
  refine ww_ior C dX9_writeHeld_19 ?_
  refine ww_aload_n C 0 rfl dX9_writeHeld_20 ?_
  refine ww_getR C (shc_61 hs) rfl inG9 0 (by decide) nq_121 rfl dX9_writeHeld_21 ?_
  refine ww_iconst (v := 3) C dX9_writeHeld_24 (by decide) ?_
  refine ww_iald C (shc_62 hs) (by unfold vp_in; decide) dX9_writeHeld_25 ?_
  refine ww_ior C dX9_writeHeld_26 ?_
  exact ww_iret C hr hlk h dX9_writeHeld_27
set_option maxRecDepth 100000 in
set_option maxHeartbeats 4000000 in
theorem c_X9_readHeld {l : Launch} {dC : Nat → ClassId} {dI : Nat → Nat → Nat} {cA : Nat → ClassId} {al : Nat → Nat} {sh : List Kd} (hs : ShC sh) {σ : St} {Q : Int32 → St → Prop} (h : m_X9_readHeld σ Q) : ∀ sz, Met l yX9_readHeld (wd yX9_readHeld cX9_readHeld 1 (some .int)) (RM 0) (va_Pc ([.ref 61].map (cv al)) (WPre dC dI cA al sh σ sz)) (va_Qi Q (WPost dC dI cA al sh (AW al sh sz)) (AW al sh sz)) 0 0 (AW al sh sz) := by
  refine ww_met (Qc := fun A => va_Qi Q (WPost dC dI cA al sh A) A) (by decide +kernel) (Nat.le_of_ble_eq_true rfl) (fun p e s m args below meth c A C hr hlk => ?_)
  show WW p l e (RM 0) s m args below meth c (MQ below (va_Qi Q (WPost dC dI cA al sh A) A) args s 0 0 A) dC dI cA A 1 0 0 al sh 0 [(0, .ref 61)] [] σ
  unfold m_X9_readHeld at h
  refine ww_aload_n C 0 rfl dX9_readHeld_0 ?_
  refine ww_getR C (shc_61 hs) rfl inG9 1 (by decide) nq_122 rfl dX9_readHeld_1 ?_
  refine ww_iconst (v := 0) C dX9_readHeld_4 (by decide) ?_
  refine ww_iald C (shc_63 hs) (by unfold vp_in; decide) dX9_readHeld_5 ?_
  refine ww_aload_n C 0 rfl dX9_readHeld_6 ?_
  refine ww_getR C (shc_61 hs) rfl inG9 1 (by decide) nq_122 rfl dX9_readHeld_7 ?_
  refine ww_iconst (v := 1) C dX9_readHeld_10 (by decide) ?_
  refine ww_iald C (shc_63 hs) (by unfold vp_in; decide) dX9_readHeld_11 ?_
  refine ww_ior C dX9_readHeld_12 ?_
  refine ww_aload_n C 0 rfl dX9_readHeld_13 ?_
  refine ww_getR C (shc_61 hs) rfl inG9 1 (by decide) nq_122 rfl dX9_readHeld_14 ?_
  refine ww_iconst (v := 2) C dX9_readHeld_17 (by decide) ?_
  refine ww_iald C (shc_63 hs) (by unfold vp_in; decide) dX9_readHeld_18 ?_
  refine ww_ior C dX9_readHeld_19 ?_
  refine ww_aload_n C 0 rfl dX9_readHeld_20 ?_
  refine ww_getR C (shc_61 hs) rfl inG9 1 (by decide) nq_122 rfl dX9_readHeld_21 ?_
  refine ww_iconst (v := 3) C dX9_readHeld_24 (by decide) ?_
  refine ww_iald C (shc_63 hs) (by unfold vp_in; decide) dX9_readHeld_25 ?_
  refine ww_ior C dX9_readHeld_26 ?_
  exact ww_iret C hr hlk h dX9_readHeld_27
set_option maxRecDepth 100000 in
set_option maxHeartbeats 4000000 in
theorem c_X9_isFree {l : Launch} {dC : Nat → ClassId} {dI : Nat → Nat → Nat} {cA : Nat → ClassId} {al : Nat → Nat} {sh : List Kd} (hs : ShC sh) {σ : St} {a1 : Int32} {a2 : Int32} {a3 : Int32} {Q : Int32 → St → Prop} (h : m_X9_isFree σ a1 a2 a3 Q) : ∀ sz, Met l yX9_isFree (wd yX9_isFree cX9_isFree 4 (some .boolean)) (RM 1) (va_Pc ([.ref 61, .int a1, .int a2, .int a3].map (cv al)) (WPre dC dI cA al sh σ sz)) (va_Qi Q (WPost dC dI cA al sh (AW al sh sz)) (AW al sh sz)) 0 0 (AW al sh sz) := by
  refine ww_met (Qc := fun A => va_Qi Q (WPost dC dI cA al sh A) A) (by decide +kernel) (Nat.le_of_ble_eq_true rfl) (fun p e s m args below meth c A C hr hlk => ?_)
  show WW p l e (RM 1) s m args below meth c (MQ below (va_Qi Q (WPost dC dI cA al sh A) A) args s 0 0 A) dC dI cA A 4 0 0 al sh 0 [(0, .ref 61), (1, .int a1), (2, .int a2), (3, .int a3)] [] σ
  unfold m_X9_isFree at h
  refine ww_iload_n C 2 rfl dX9_isFree_0 ?_
  refine ww_if_ne (tgt := 26) C dX9_isFree_1 (by decide) (fun hc => ?_) (fun hc => ?_)
  · have h := h.1 hc
    refine ww_iload_n C 2 rfl dX9_isFree_26 ?_
    refine ww_iconst (v := 1) C dX9_isFree_27 (by decide) ?_
    refine ww_icmp_ne (tgt := 55) C dX9_isFree_28 (by decide) (fun hc => ?_) (fun hc => ?_)
    · have h := h.1 hc
      refine ww_aload_n C 0 rfl dX9_isFree_55 ?_
      refine ww_getR C (shc_61 hs) rfl inG9 0 (by decide) nq_121 rfl dX9_isFree_56 ?_
      refine ww_iload_n C 1 rfl dX9_isFree_59 ?_
      refine ww_iald C (shc_62 hs) h.1 dX9_isFree_60 ?_
      have h := h.2
      refine ww_aload_n C 0 rfl dX9_isFree_61 ?_
      refine ww_getR C (shc_61 hs) rfl inG9 1 (by decide) nq_122 rfl dX9_isFree_62 ?_
      refine ww_iload_n C 1 rfl dX9_isFree_65 ?_
      refine ww_iald C (shc_63 hs) h.1 dX9_isFree_66 ?_
      have h := h.2
      refine ww_ior C dX9_isFree_67 ?_
      refine ww_iload_n C 3 rfl dX9_isFree_68 ?_
      refine ww_si (n := 2) (As := [.int ((σ.1 62 a1.toNatClampNeg) ||| (σ.1 63 a1.toNatClampNeg)), .int a3]) (rest := []) C (c_X9_has hs h) nq_244 nq_245 nq_5 nq_246 (by decide +kernel) rfl rfl ⟨Nat.le_of_ble_eq_true rfl, Nat.le_of_ble_eq_true rfl, Nat.le_of_ble_eq_true rfl, Nat.le_of_ble_eq_true rfl⟩ (Nat.le_of_ble_eq_true rfl) dX9_isFree_69 (fun r69 σ69 h => ?_)
      exact ww_zret C hr hlk h.1 h.2 dX9_isFree_72
    · have h := h.2 hc
      refine ww_aload_n C 0 rfl dX9_isFree_31 ?_
      refine ww_vi (n := 0) (As := []) (rest := []) C (c_X9_writeHeld hs h) (shc_61 hs) rfl nq_262 nq_263 nq_264 nq_5 nq_265 (by decide +kernel) rfl rfl ⟨Nat.le_of_ble_eq_true rfl, Nat.le_of_ble_eq_true rfl, Nat.le_of_ble_eq_true rfl, Nat.le_of_ble_eq_true rfl⟩ (Nat.le_of_ble_eq_true rfl) dX9_isFree_32 (fun r32 σ32 h => ?_)
      refine ww_aload_n C 0 rfl dX9_isFree_35 ?_
      refine ww_getR C (shc_61 hs) rfl inG9 1 (by decide) nq_122 rfl dX9_isFree_36 ?_
      refine ww_iload_n C 1 rfl dX9_isFree_39 ?_
      refine ww_iald C (shc_63 hs) h.1 dX9_isFree_40 ?_
      have h := h.2
      refine ww_ior C dX9_isFree_41 ?_
      refine ww_iload_n C 3 rfl dX9_isFree_42 ?_
      refine ww_si (n := 2) (As := [.int (r32 ||| (σ32.1 63 a1.toNatClampNeg)), .int a3]) (rest := []) C (c_X9_has hs h) nq_244 nq_245 nq_5 nq_246 (by decide +kernel) rfl rfl ⟨Nat.le_of_ble_eq_true rfl, Nat.le_of_ble_eq_true rfl, Nat.le_of_ble_eq_true rfl, Nat.le_of_ble_eq_true rfl⟩ (Nat.le_of_ble_eq_true rfl) dX9_isFree_43 (fun r43 σ43 h => ?_)
      refine ww_if_ne (tgt := 53) C dX9_isFree_46 (by decide) (fun hc => ?_) (fun hc => ?_)
      · have h := h.1 hc
        refine ww_iconst (v := 0) C dX9_isFree_53 (by decide) ?_
        exact ww_zret C hr hlk (by decide) h dX9_isFree_54
      · have h := h.2 hc
        refine ww_iconst (v := 1) C dX9_isFree_49 (by decide) ?_
        refine ww_goto (tgt := 54) C dX9_isFree_50 (by decide) ?_
        exact ww_zret C hr hlk (by decide) h dX9_isFree_54
  · have h := h.2 hc
    refine ww_aload_n C 0 rfl dX9_isFree_4 ?_
    refine ww_vi (n := 0) (As := []) (rest := []) C (c_X9_writeHeld hs h) (shc_61 hs) rfl nq_262 nq_263 nq_264 nq_5 nq_265 (by decide +kernel) rfl rfl ⟨Nat.le_of_ble_eq_true rfl, Nat.le_of_ble_eq_true rfl, Nat.le_of_ble_eq_true rfl, Nat.le_of_ble_eq_true rfl⟩ (Nat.le_of_ble_eq_true rfl) dX9_isFree_5 (fun r5 σ5 h => ?_)
    refine ww_aload_n C 0 rfl dX9_isFree_8 ?_
    refine ww_vi (n := 0) (As := []) (rest := [.int r5]) C (c_X9_readHeld hs h) (shc_61 hs) rfl nq_266 nq_267 nq_268 nq_5 nq_269 (by decide +kernel) rfl rfl ⟨Nat.le_of_ble_eq_true rfl, Nat.le_of_ble_eq_true rfl, Nat.le_of_ble_eq_true rfl, Nat.le_of_ble_eq_true rfl⟩ (Nat.le_of_ble_eq_true rfl) dX9_isFree_9 (fun r9 σ9 h => ?_)
    refine ww_ior C dX9_isFree_12 ?_
    refine ww_iload_n C 3 rfl dX9_isFree_13 ?_
    refine ww_si (n := 2) (As := [.int (r5 ||| r9), .int a3]) (rest := []) C (c_X9_has hs h) nq_244 nq_245 nq_5 nq_246 (by decide +kernel) rfl rfl ⟨Nat.le_of_ble_eq_true rfl, Nat.le_of_ble_eq_true rfl, Nat.le_of_ble_eq_true rfl, Nat.le_of_ble_eq_true rfl⟩ (Nat.le_of_ble_eq_true rfl) dX9_isFree_14 (fun r14 σ14 h => ?_)
    refine ww_if_ne (tgt := 24) C dX9_isFree_17 (by decide) (fun hc => ?_) (fun hc => ?_)
    · have h := h.1 hc
      refine ww_iconst (v := 0) C dX9_isFree_24 (by decide) ?_
      exact ww_zret C hr hlk (by decide) h dX9_isFree_25
    · have h := h.2 hc
      refine ww_iconst (v := 1) C dX9_isFree_20 (by decide) ?_
      refine ww_goto (tgt := 25) C dX9_isFree_21 (by decide) ?_
      exact ww_zret C hr hlk (by decide) h dX9_isFree_25
set_option maxRecDepth 100000 in
set_option maxHeartbeats 4000000 in
theorem c_X9_mayBe {l : Launch} {dC : Nat → ClassId} {dI : Nat → Nat → Nat} {cA : Nat → ClassId} {al : Nat → Nat} {sh : List Kd} (hs : ShC sh) {σ : St} {a1 : Int32} {a2 : Int32} {a3 : Int32} {Q : Int32 → St → Prop} (h : m_X9_mayBe σ a1 a2 a3 Q) : ∀ sz, Met l yX9_mayBe (wd yX9_mayBe cX9_mayBe 4 (some .boolean)) (RM 2) (va_Pc ([.ref 61, .int a1, .int a2, .int a3].map (cv al)) (WPre dC dI cA al sh σ sz)) (va_Qi Q (WPost dC dI cA al sh (AW al sh sz)) (AW al sh sz)) 0 0 (AW al sh sz) := by
  refine ww_met (Qc := fun A => va_Qi Q (WPost dC dI cA al sh A) A) (by decide +kernel) (Nat.le_of_ble_eq_true rfl) (fun p e s m args below meth c A C hr hlk => ?_)
  show WW p l e (RM 2) s m args below meth c (MQ below (va_Qi Q (WPost dC dI cA al sh A) A) args s 0 0 A) dC dI cA A 4 0 0 al sh 0 [(0, .ref 61), (1, .int a1), (2, .int a2), (3, .int a3)] [] σ
  unfold m_X9_mayBe at h
  refine ww_iload_n C 3 rfl dX9_mayBe_0 ?_
  refine ww_i2l C dX9_mayBe_1 ?_
  refine ww_lconst (v := 0) C dX9_mayBe_2 (by decide) ?_
  refine ww_ldc2 (v := 3) C nq_243 dX9_mayBe_3 ?_
  refine ww_si (n := 3) (As := [.long (a3.toInt64), .long 0, .long 3]) (rest := []) C (c_X9_in hs h) nq_159 nq_160 nq_5 nq_161 (by decide +kernel) rfl rfl ⟨Nat.le_of_ble_eq_true rfl, Nat.le_of_ble_eq_true rfl, Nat.le_of_ble_eq_true rfl, Nat.le_of_ble_eq_true rfl⟩ (Nat.le_of_ble_eq_true rfl) dX9_mayBe_6 (fun r6 σ6 h => ?_)
  refine ww_if_ne (tgt := 14) C dX9_mayBe_9 (by decide) (fun hc => ?_) (fun hc => ?_)
  · have h := h.1 hc
    refine ww_iload_n C 2 rfl dX9_mayBe_14 ?_
    refine ww_iconst (v := 3) C dX9_mayBe_15 (by decide) ?_
    refine ww_icmp_ge (tgt := 27) C dX9_mayBe_16 (by decide) (fun hc => ?_) (fun hc => ?_)
    · have h := h.1 hc
      refine ww_iload_n C 2 rfl dX9_mayBe_27 ?_
      refine ww_iconst (v := 5) C dX9_mayBe_28 (by decide) ?_
      refine ww_icmp_ge (tgt := 34) C dX9_mayBe_29 (by decide) (fun hc => ?_) (fun hc => ?_)
      · have h := h.1 hc
        refine ww_iload_n C 2 rfl dX9_mayBe_34 ?_
        refine ww_iconst (v := 5) C dX9_mayBe_35 (by decide) ?_
        refine ww_icmp_ne (tgt := 56) C dX9_mayBe_36 (by decide) (fun hc => ?_) (fun hc => ?_)
        · have h := h.1 hc
          refine ww_iload_n C 3 rfl dX9_mayBe_56 ?_
          refine ww_iload_n C 1 rfl dX9_mayBe_57 ?_
          refine ww_icmp_eq (tgt := 89) C dX9_mayBe_58 (by decide) (fun hc => ?_) (fun hc => ?_)
          · have h := h.1 hc
            refine ww_iconst (v := 0) C dX9_mayBe_89 (by decide) ?_
            exact ww_zret C hr hlk (by decide) h dX9_mayBe_90
          · have h := h.2 hc
            refine ww_aload_n C 0 rfl dX9_mayBe_61 ?_
            refine ww_iload_n C 3 rfl dX9_mayBe_62 ?_
            refine ww_vi (n := 1) (As := [.int a3]) (rest := []) C (c_X9_isRunning hs h) (shc_61 hs) rfl nq_239 nq_240 nq_241 nq_5 nq_242 (by decide +kernel) rfl rfl ⟨Nat.le_of_ble_eq_true rfl, Nat.le_of_ble_eq_true rfl, Nat.le_of_ble_eq_true rfl, Nat.le_of_ble_eq_true rfl⟩ (Nat.le_of_ble_eq_true rfl) dX9_mayBe_63 (fun r63 σ63 h => ?_)
            refine ww_if_eq (tgt := 89) C dX9_mayBe_66 (by decide) (fun hc => ?_) (fun hc => ?_)
            · have h := h.1 hc
              refine ww_iconst (v := 0) C dX9_mayBe_89 (by decide) ?_
              exact ww_zret C hr hlk (by decide) h dX9_mayBe_90
            · have h := h.2 hc
              refine ww_aload_n C 0 rfl dX9_mayBe_69 ?_
              refine ww_getR C (shc_61 hs) rfl inG9 0 (by decide) nq_121 rfl dX9_mayBe_70 ?_
              refine ww_iload_n C 3 rfl dX9_mayBe_73 ?_
              refine ww_iald C (shc_62 hs) h.1 dX9_mayBe_74 ?_
              have h := h.2
              refine ww_aload_n C 0 rfl dX9_mayBe_75 ?_
              refine ww_getR C (shc_61 hs) rfl inG9 1 (by decide) nq_122 rfl dX9_mayBe_76 ?_
              refine ww_iload_n C 3 rfl dX9_mayBe_79 ?_
              refine ww_iald C (shc_63 hs) h.1 dX9_mayBe_80 ?_
              have h := h.2
              refine ww_ior C dX9_mayBe_81 ?_
              refine ww_if_ne (tgt := 89) C dX9_mayBe_82 (by decide) (fun hc => ?_) (fun hc => ?_)
              · have h := h.1 hc
                refine ww_iconst (v := 0) C dX9_mayBe_89 (by decide) ?_
                exact ww_zret C hr hlk (by decide) h dX9_mayBe_90
              · have h := h.2 hc
                refine ww_iconst (v := 1) C dX9_mayBe_85 (by decide) ?_
                refine ww_goto (tgt := 90) C dX9_mayBe_86 (by decide) ?_
                exact ww_zret C hr hlk (by decide) h dX9_mayBe_90
        · have h := h.2 hc
          refine ww_aload_n C 0 rfl dX9_mayBe_39 ?_
          refine ww_getI C (shc_61 hs) rfl inG9 2 (by decide) nq_237 rfl dX9_mayBe_40 ?_
          refine ww_iload_n C 3 rfl dX9_mayBe_43 ?_
          refine ww_si (n := 2) (As := [.int (σ6.1 61 2), .int a3]) (rest := []) C (c_X9_has hs h) nq_244 nq_245 nq_5 nq_246 (by decide +kernel) rfl rfl ⟨Nat.le_of_ble_eq_true rfl, Nat.le_of_ble_eq_true rfl, Nat.le_of_ble_eq_true rfl, Nat.le_of_ble_eq_true rfl⟩ (Nat.le_of_ble_eq_true rfl) dX9_mayBe_44 (fun r44 σ44 h => ?_)
          refine ww_if_ne (tgt := 54) C dX9_mayBe_47 (by decide) (fun hc => ?_) (fun hc => ?_)
          · have h := h.1 hc
            refine ww_iconst (v := 0) C dX9_mayBe_54 (by decide) ?_
            exact ww_zret C hr hlk (by decide) h dX9_mayBe_55
          · have h := h.2 hc
            refine ww_iconst (v := 1) C dX9_mayBe_50 (by decide) ?_
            refine ww_goto (tgt := 55) C dX9_mayBe_51 (by decide) ?_
            exact ww_zret C hr hlk (by decide) h dX9_mayBe_55
      · have h := h.2 hc
        refine ww_iconst (v := 1) C dX9_mayBe_32 (by decide) ?_
        exact ww_zret C hr hlk (by decide) h dX9_mayBe_33
    · have h := h.2 hc
      refine ww_aload_n C 0 rfl dX9_mayBe_19 ?_
      refine ww_iload_n C 1 rfl dX9_mayBe_20 ?_
      refine ww_iload_n C 2 rfl dX9_mayBe_21 ?_
      refine ww_iload_n C 3 rfl dX9_mayBe_22 ?_
      refine ww_vi (n := 3) (As := [.int a1, .int a2, .int a3]) (rest := []) C (c_X9_isFree hs h) (shc_61 hs) rfl nq_258 nq_259 nq_260 nq_5 nq_261 (by decide +kernel) rfl rfl ⟨Nat.le_of_ble_eq_true rfl, Nat.le_of_ble_eq_true rfl, Nat.le_of_ble_eq_true rfl, Nat.le_of_ble_eq_true rfl⟩ (Nat.le_of_ble_eq_true rfl) dX9_mayBe_23 (fun r23 σ23 h => ?_)
      exact ww_zret C hr hlk h.1 h.2 dX9_mayBe_26
  · have h := h.2 hc
    refine ww_iconst (v := 0) C dX9_mayBe_12 (by decide) ?_
    exact ww_zret C hr hlk (by decide) h dX9_mayBe_13
set_option maxRecDepth 100000 in
set_option maxHeartbeats 4000000 in
theorem c_X9_mayAny {l : Launch} {dC : Nat → ClassId} {dI : Nat → Nat → Nat} {cA : Nat → ClassId} {al : Nat → Nat} {sh : List Kd} (hs : ShC sh) {σ : St} {a1 : Int32} {a2 : Int32} {Q : Int32 → St → Prop} (h : m_X9_mayAny σ a1 a2 Q) : ∀ sz, Met l yX9_mayAny (wd yX9_mayAny cX9_mayAny 3 (some .boolean)) (RM 3) (va_Pc ([.ref 61, .int a1, .int a2].map (cv al)) (WPre dC dI cA al sh σ sz)) (va_Qi Q (WPost dC dI cA al sh (AW al sh sz)) (AW al sh sz)) 0 0 (AW al sh sz) := by
  refine ww_met (Qc := fun A => va_Qi Q (WPost dC dI cA al sh A) A) (by decide +kernel) (Nat.le_of_ble_eq_true rfl) (fun p e s m args below meth c A C hr hlk => ?_)
  show WW p l e (RM 3) s m args below meth c (MQ below (va_Qi Q (WPost dC dI cA al sh A) A) args s 0 0 A) dC dI cA A 3 0 0 al sh 0 [(0, .ref 61), (1, .int a1), (2, .int a2)] [] σ
  unfold m_X9_mayAny at h
  refine ww_aload_n C 0 rfl dX9_mayAny_0 ?_
  refine ww_iload_n C 1 rfl dX9_mayAny_1 ?_
  refine ww_iload_n C 2 rfl dX9_mayAny_2 ?_
  refine ww_iconst (v := 0) C dX9_mayAny_3 (by decide) ?_
  refine ww_vi (n := 3) (As := [.int a1, .int a2, .int 0]) (rest := []) C (c_X9_mayBe hs h) (shc_61 hs) rfl nq_254 nq_255 nq_256 nq_5 nq_257 (by decide +kernel) rfl rfl ⟨Nat.le_of_ble_eq_true rfl, Nat.le_of_ble_eq_true rfl, Nat.le_of_ble_eq_true rfl, Nat.le_of_ble_eq_true rfl⟩ (Nat.le_of_ble_eq_true rfl) dX9_mayAny_4 (fun r4 σ4 h => ?_)
  refine ww_if_ne (tgt := 40) C dX9_mayAny_7 (by decide) (fun hc => ?_) (fun hc => ?_)
  · have h := h.1 hc
    refine ww_iconst (v := 1) C dX9_mayAny_40 (by decide) ?_
    refine ww_goto (tgt := 45) C dX9_mayAny_41 (by decide) ?_
    exact ww_zret C hr hlk (by decide) h dX9_mayAny_45
  · have h := h.2 hc
    refine ww_aload_n C 0 rfl dX9_mayAny_10 ?_
    refine ww_iload_n C 1 rfl dX9_mayAny_11 ?_
    refine ww_iload_n C 2 rfl dX9_mayAny_12 ?_
    refine ww_iconst (v := 1) C dX9_mayAny_13 (by decide) ?_
    refine ww_vi (n := 3) (As := [.int a1, .int a2, .int 1]) (rest := []) C (c_X9_mayBe hs h) (shc_61 hs) rfl nq_254 nq_255 nq_256 nq_5 nq_257 (by decide +kernel) rfl rfl ⟨Nat.le_of_ble_eq_true rfl, Nat.le_of_ble_eq_true rfl, Nat.le_of_ble_eq_true rfl, Nat.le_of_ble_eq_true rfl⟩ (Nat.le_of_ble_eq_true rfl) dX9_mayAny_14 (fun r14 σ14 h => ?_)
    refine ww_if_ne (tgt := 40) C dX9_mayAny_17 (by decide) (fun hc => ?_) (fun hc => ?_)
    · have h := h.1 hc
      refine ww_iconst (v := 1) C dX9_mayAny_40 (by decide) ?_
      refine ww_goto (tgt := 45) C dX9_mayAny_41 (by decide) ?_
      exact ww_zret C hr hlk (by decide) h dX9_mayAny_45
    · have h := h.2 hc
      refine ww_aload_n C 0 rfl dX9_mayAny_20 ?_
      refine ww_iload_n C 1 rfl dX9_mayAny_21 ?_
      refine ww_iload_n C 2 rfl dX9_mayAny_22 ?_
      refine ww_iconst (v := 2) C dX9_mayAny_23 (by decide) ?_
      refine ww_vi (n := 3) (As := [.int a1, .int a2, .int 2]) (rest := []) C (c_X9_mayBe hs h) (shc_61 hs) rfl nq_254 nq_255 nq_256 nq_5 nq_257 (by decide +kernel) rfl rfl ⟨Nat.le_of_ble_eq_true rfl, Nat.le_of_ble_eq_true rfl, Nat.le_of_ble_eq_true rfl, Nat.le_of_ble_eq_true rfl⟩ (Nat.le_of_ble_eq_true rfl) dX9_mayAny_24 (fun r24 σ24 h => ?_)
      refine ww_if_ne (tgt := 40) C dX9_mayAny_27 (by decide) (fun hc => ?_) (fun hc => ?_)
      · have h := h.1 hc
        refine ww_iconst (v := 1) C dX9_mayAny_40 (by decide) ?_
        refine ww_goto (tgt := 45) C dX9_mayAny_41 (by decide) ?_
        exact ww_zret C hr hlk (by decide) h dX9_mayAny_45
      · have h := h.2 hc
        refine ww_aload_n C 0 rfl dX9_mayAny_30 ?_
        refine ww_iload_n C 1 rfl dX9_mayAny_31 ?_
        refine ww_iload_n C 2 rfl dX9_mayAny_32 ?_
        refine ww_iconst (v := 3) C dX9_mayAny_33 (by decide) ?_
        refine ww_vi (n := 3) (As := [.int a1, .int a2, .int 3]) (rest := []) C (c_X9_mayBe hs h) (shc_61 hs) rfl nq_254 nq_255 nq_256 nq_5 nq_257 (by decide +kernel) rfl rfl ⟨Nat.le_of_ble_eq_true rfl, Nat.le_of_ble_eq_true rfl, Nat.le_of_ble_eq_true rfl, Nat.le_of_ble_eq_true rfl⟩ (Nat.le_of_ble_eq_true rfl) dX9_mayAny_34 (fun r34 σ34 h => ?_)
        refine ww_if_eq (tgt := 44) C dX9_mayAny_37 (by decide) (fun hc => ?_) (fun hc => ?_)
        · have h := h.1 hc
          refine ww_iconst (v := 0) C dX9_mayAny_44 (by decide) ?_
          exact ww_zret C hr hlk (by decide) h dX9_mayAny_45
        · have h := h.2 hc
          refine ww_iconst (v := 1) C dX9_mayAny_40 (by decide) ?_
          refine ww_goto (tgt := 45) C dX9_mayAny_41 (by decide) ?_
          exact ww_zret C hr hlk (by decide) h dX9_mayAny_45
set_option maxRecDepth 100000 in
set_option maxHeartbeats 4000000 in
theorem c_X9_go {l : Launch} {dC : Nat → ClassId} {dI : Nat → Nat → Nat} {cA : Nat → ClassId} {al : Nat → Nat} {sh : List Kd} (hs : ShC sh) {σ : St} {a1 : Int32} {a2 : Int32} {a3 : Int32} {Q : St → Prop} (h : m_X9_go σ a1 a2 a3 Q) : ∀ sz, Met l yX9_go (wd yX9_go cX9_go 5 none) (RM 0) (va_Pc ([.ref 61, .int a1, .int a2, .int a3].map (cv al)) (WPre dC dI cA al sh σ sz)) (va_Qv Q (WPost dC dI cA al sh (AW al sh sz)) (AW al sh sz)) 0 0 (AW al sh sz) := by
  refine ww_met (Qc := fun A => va_Qv Q (WPost dC dI cA al sh A) A) (by decide +kernel) (Nat.le_of_ble_eq_true rfl) (fun p e s m args below meth c A C hr hlk => ?_)
  show WW p l e (RM 0) s m args below meth c (MQ below (va_Qv Q (WPost dC dI cA al sh A) A) args s 0 0 A) dC dI cA A 5 0 0 al sh 0 [(0, .ref 61), (1, .int a1), (2, .int a2), (3, .int a3)] [] σ
  unfold m_X9_go at h
  refine ww_iconst (v := 1) C dX9_go_0 (by decide) ?_
  refine ww_iload_n C 3 rfl dX9_go_1 ?_
  refine ww_ishl C dX9_go_2 ?_
  refine ww_nmI h (fun y3 h => ?_)
  refine ww_istore (lv' := [(4, .int y3), (0, .ref 61), (1, .int a1), (2, .int a2), (3, .int a3)]) C dX9_go_3 (by decide) rfl ?_
  refine ww_iload_n C 3 rfl dX9_go_5 ?_
  by_cases hc0 : a2 = 0
  · refine ww_table (off := 42) (tgt := 48) C dX9_go_6 (by rw [hc0]; decide) (by rw [hc0]; decide) (by rw [hc0]; rfl) (by decide) ?_
    have h := h.1 hc0
    refine ww_aload_n C 1 rfl dX9_go_48 ?_
    refine ww_getR C (shc_61 hs) rfl inG9 0 (by decide) nq_121 rfl dX9_go_49 ?_
    refine ww_iload_n C 2 rfl dX9_go_52 ?_
    refine ww_dup2 C rfl rfl dX9_go_53 ?_
    refine ww_iald C (shc_62 hs) h.1 dX9_go_54 ?_
    have h := h.2
    refine ww_iload C 0 rfl dX9_go_55 ?_
    refine ww_ior C dX9_go_57 ?_
    refine ww_iast C (shc_62 hs) h.1 dX9_go_58 h.2 (fun σ58 h => ?_)
    refine ww_goto (tgt := 133) C dX9_go_59 (by decide) ?_
    exact ww_vret C hr hlk h dX9_go_133
  · skip
    by_cases hc1 : a2 = 1
    · refine ww_table (off := 56) (tgt := 62) C dX9_go_6 (by rw [hc1]; decide) (by rw [hc1]; decide) (by rw [hc1]; rfl) (by decide) ?_
      have h := h.2.1 hc1
      refine ww_aload_n C 1 rfl dX9_go_62 ?_
      refine ww_getR C (shc_61 hs) rfl inG9 1 (by decide) nq_122 rfl dX9_go_63 ?_
      refine ww_iload_n C 2 rfl dX9_go_66 ?_
      refine ww_dup2 C rfl rfl dX9_go_67 ?_
      refine ww_iald C (shc_63 hs) h.1 dX9_go_68 ?_
      have h := h.2
      refine ww_iload C 0 rfl dX9_go_69 ?_
      refine ww_ior C dX9_go_71 ?_
      refine ww_iast C (shc_63 hs) h.1 dX9_go_72 h.2 (fun σ72 h => ?_)
      refine ww_goto (tgt := 133) C dX9_go_73 (by decide) ?_
      exact ww_vret C hr hlk h dX9_go_133
    · skip
      by_cases hc2 : a2 = 2
      · refine ww_table (off := 70) (tgt := 76) C dX9_go_6 (by rw [hc2]; decide) (by rw [hc2]; decide) (by rw [hc2]; rfl) (by decide) ?_
        have h := h.2.2.1 hc2
        refine ww_aload_n C 1 rfl dX9_go_76 ?_
        refine ww_getR C (shc_61 hs) rfl inG9 0 (by decide) nq_121 rfl dX9_go_77 ?_
        refine ww_iload_n C 2 rfl dX9_go_80 ?_
        refine ww_dup2 C rfl rfl dX9_go_81 ?_
        refine ww_iald C (shc_62 hs) h.1 dX9_go_82 ?_
        have h := h.2
        refine ww_iload C 0 rfl dX9_go_83 ?_
        refine ww_iconst (v := -1) C dX9_go_85 (by decide) ?_
        refine ww_ixor C dX9_go_86 ?_
        refine ww_iand C dX9_go_87 ?_
        refine ww_iast C (shc_62 hs) h.1 dX9_go_88 h.2 (fun σ88 h => ?_)
        refine ww_aload_n C 1 rfl dX9_go_89 ?_
        refine ww_getR C (shc_61 hs) rfl inG9 1 (by decide) nq_122 rfl dX9_go_90 ?_
        refine ww_iload_n C 2 rfl dX9_go_93 ?_
        refine ww_dup2 C rfl rfl dX9_go_94 ?_
        refine ww_iald C (shc_63 hs) h.1 dX9_go_95 ?_
        have h := h.2
        refine ww_iload C 0 rfl dX9_go_96 ?_
        refine ww_iconst (v := -1) C dX9_go_98 (by decide) ?_
        refine ww_ixor C dX9_go_99 ?_
        refine ww_iand C dX9_go_100 ?_
        refine ww_iast C (shc_63 hs) h.1 dX9_go_101 h.2 (fun σ101 h => ?_)
        refine ww_goto (tgt := 133) C dX9_go_102 (by decide) ?_
        exact ww_vret C hr hlk h dX9_go_133
      · skip
        by_cases hc5 : a2 = 5
        · refine ww_table (off := 99) (tgt := 105) C dX9_go_6 (by rw [hc5]; decide) (by rw [hc5]; decide) (by rw [hc5]; rfl) (by decide) ?_
          have h := h.2.2.2.1 hc5
          refine ww_aload_n C 1 rfl dX9_go_105 ?_
          refine ww_dup C rfl dX9_go_106 ?_
          refine ww_getI C (shc_61 hs) rfl inG9 2 (by decide) nq_237 rfl dX9_go_107 ?_
          refine ww_iload C 0 rfl dX9_go_110 ?_
          refine ww_ior C dX9_go_112 ?_
          refine ww_putI C (shc_61 hs) rfl inG9 2 (by decide) nq_237 tyX9 tyX9_ok nmX9 rfl (by decide +kernel) rfl dX9_go_113 h (fun σ113 h => ?_)
          refine ww_goto (tgt := 133) C dX9_go_116 (by decide) ?_
          exact ww_vret C hr hlk h dX9_go_133
        · skip
          by_cases hc6 : a2 = 6
          · refine ww_table (off := 113) (tgt := 119) C dX9_go_6 (by rw [hc6]; decide) (by rw [hc6]; decide) (by rw [hc6]; rfl) (by decide) ?_
            have h := h.2.2.2.2.1 hc6
            refine ww_aload_n C 1 rfl dX9_go_119 ?_
            refine ww_dup C rfl dX9_go_120 ?_
            refine ww_getI C (shc_61 hs) rfl inG9 3 (by decide) nq_238 rfl dX9_go_121 ?_
            refine ww_iload C 0 rfl dX9_go_124 ?_
            refine ww_ior C dX9_go_126 ?_
            refine ww_putI C (shc_61 hs) rfl inG9 3 (by decide) nq_238 tyX9 tyX9_ok nmX9 rfl (by decide +kernel) rfl dX9_go_127 h (fun σ127 h => ?_)
            refine ww_goto (tgt := 133) C dX9_go_130 (by decide) ?_
            exact ww_vret C hr hlk h dX9_go_133
          · skip
            refine ww_tabD (tgt := 133) C dX9_go_6 (tabD_ok [0, 1, 2, 5, 6] (by decide) (List.forall_mem_cons.mpr ⟨ne_toInt (n := 0) hc0, (List.forall_mem_cons.mpr ⟨ne_toInt (n := 1) hc1, (List.forall_mem_cons.mpr ⟨ne_toInt (n := 2) hc2, (List.forall_mem_cons.mpr ⟨ne_toInt (n := 5) hc5, (List.forall_mem_cons.mpr ⟨ne_toInt (n := 6) hc6, (fun _ h => absurd h List.not_mem_nil)⟩)⟩)⟩)⟩)⟩)) (by decide) ?_
            have h := h.2.2.2.2.2 ⟨hc0, hc1, hc2, hc5, hc6⟩
            exact ww_vret C hr hlk h dX9_go_133
