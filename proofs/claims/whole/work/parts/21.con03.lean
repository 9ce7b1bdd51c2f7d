set_option maxRecDepth 100000 in
set_option maxHeartbeats 4000000 in
theorem w_X3_grow_J75 {p : Program} {l : Launch} {e : Env} {s : State} {m : MethodId} {args : Array Value} {below : List Frame} {meth : Method} {c : Code} {dC : Nat → ClassId} {dI : Nat → Nat → Nat} {cA : Nat → ClassId} {A : Nat → Prop} {al : Nat → Nat} {sh : List Kd} (C : Fx p s m args c cX3_grow 9 yX3_grow.cls dC dI cA A al) (hr : meth.sig.returnType = none) (hlk : meth.locks = false) (hs : ShC sh) {b1 : Nat} (hb1 : isRow sh b1) {a2 : Int32} {a3 : Int32} {a4 : Int32} {Q : St → Prop} {D : Nat} {G : Nat → St → Int32 → Int32 → Int32 → (St → Prop) → Prop} (hG : ∀ {σ : St} {a2 : Int32} {a3 : Int32} {a4 : Int32} {Q : St → Prop}, G b1 σ a2 a3 a4 Q → ∀ sz, Met l yX3_grow (wd yX3_grow cX3_grow 9 none) (RM (2 + D)) (va_Pc ([.ref 52, .ref b1, .int a2, .int a3, .int a4].map (cv al)) (WPre dC dI cA al sh σ sz)) (va_Qv Q (WPost dC dI cA al sh (AW al sh sz)) (AW al sh sz)) 0 0 (AW al sh sz)) {x5 : Int32} {K176 : St → Prop} (hK176 : ∀ (σ : St), K176 σ → WW p l e (RM (2 + (D + 1))) s m args below meth c (MQ below (va_Qv Q (WPost dC dI cA al sh A) A) args s 0 0 A) dC dI cA A 9 0 0 al sh 176 [] [] σ) {Rc : St → Int32 → Prop} (hRc : ∀ (σ : St) (x6 : Int32), Rc σ x6 → WW p l e (RM (2 + (D + 1))) s m args below meth c (MQ below (va_Qv Q (WPost dC dI cA al sh A) A) args s 0 0 A) dC dI cA A 9 0 0 al sh 22 [(0, .ref 52), (1, .ref b1), (2, .int a2), (3, .int a3), (4, .int a4), (5, .int x5), (6, .int x6)] [] σ) {σ : St} {x6 : Int32} {x7 : Int32} {t0 : Int32} (h : m_X3_grow_J75 b1 a2 a3 a4 Q G x5 K176 Rc σ x6 x7 t0) : WW p l e (RM (2 + (D + 1))) s m args below meth c (MQ below (va_Qv Q (WPost dC dI cA al sh A) A) args s 0 0 A) dC dI cA A 9 0 0 al sh 75 [(0, .ref 52), (1, .ref b1), (2, .int a2), (3, .int a3), (4, .int a4), (5, .int x5), (6, .int x6), (7, .int x7)] [.int t0] σ := by
  unfold m_X3_grow_J75 at h
  refine ww_istore (lv' := [(8, .int t0), (0, .ref 52), (1, .ref b1), (2, .int a2), (3, .int a3), (4, .int a4), (5, .int x5), (6, .int x6), (7, .int x7)]) C dX3_grow_75 (by decide) rfl ?_
  refine ww_iload C 0 rfl dX3_grow_77 ?_
  refine ww_if_eq (tgt := 170) C dX3_grow_79 (by decide) (fun hc => ?_) (fun hc => ?_)
  · have h := h.1 hc
    refine ww_iinc (v := (x6 + 1)) (lv' := [(6, .int (x6 + 1)), (8, .int t0), (0, .ref 52), (1, .ref b1), (2, .int a2), (3, .int a3), (4, .int a4), (5, .int x5), (7, .int x7)]) C 7 rfl dX3_grow_170 rfl (by decide) rfl ?_
    refine ww_goto (tgt := 22) C dX3_grow_173 (by decide) ?_
    refine ww_sub [2, 3, 4, 5, 6, 7, 0] rfl ?_
    exact hRc _ _ h
  · have h := h.2 hc
    refine ww_aload_n C 1 rfl dX3_grow_82 ?_
    refine ww_aload_n C 2 rfl dX3_grow_83 ?_
    refine ww_aload_n C 1 rfl dX3_grow_84 ?_
    refine ww_getR C (shc_52 hs) rfl inG3 6 (by decide) nq_107 rfl dX3_grow_85 ?_
    refine ww_iload_n C 3 rfl dX3_grow_88 ?_
    refine ww_iconst (v := 1) C dX3_grow_89 (by decide) ?_
    refine ww_isub C dX3_grow_90 ?_
    refine ww_iald C (shc_57 hs) h.1 dX3_grow_91 ?_
    have h := h.2
    refine ww_iload C 7 rfl dX3_grow_92 ?_
    refine ww_vi (n := 3) (As := [.ref b1, .int (σ.1 57 (a2 - 1).toNatClampNeg), .int x6]) (rest := []) C (c_X3_links hs hb1 h) (shc_52 hs) rfl nq_598 nq_599 nq_600 nq_35 nq_601 (by decide +kernel) rfl rfl (rmR (by omega) (by decide)) (Nat.le_of_ble_eq_true rfl) dX3_grow_94 (fun r94 σ94 h => ?_)
    refine ww_if_eq (tgt := 170) C dX3_grow_97 (by decide) (fun hc => ?_) (fun hc => ?_)
    · have h := h.1 hc
      refine ww_iinc (v := (x6 + 1)) (lv' := [(6, .int (x6 + 1)), (8, .int t0), (0, .ref 52), (1, .ref b1), (2, .int a2), (3, .int a3), (4, .int a4), (5, .int x5), (7, .int x7)]) C 7 rfl dX3_grow_170 rfl (by decide) rfl ?_
      refine ww_goto (tgt := 22) C dX3_grow_173 (by decide) ?_
      refine ww_sub [2, 3, 4, 5, 6, 7, 0] rfl ?_
      exact hRc _ _ h
    · have h := h.2 hc
      refine ww_aload_n C 1 rfl dX3_grow_100 ?_
      refine ww_getR C (shc_52 hs) rfl inG3 6 (by decide) nq_107 rfl dX3_grow_101 ?_
      refine ww_iload_n C 3 rfl dX3_grow_104 ?_
      refine ww_iload C 7 rfl dX3_grow_105 ?_
      refine ww_iast C (shc_57 hs) h.1 dX3_grow_107 h.2 (fun σ107 h => ?_)
      refine ww_aload_n C 1 rfl dX3_grow_108 ?_
      refine ww_aload_n C 2 rfl dX3_grow_109 ?_
      refine ww_iload C 7 rfl dX3_grow_110 ?_
      refine ww_iload C 6 rfl dX3_grow_112 ?_
      refine ww_vi (n := 3) (As := [.ref b1, .int x6, .int x5]) (rest := []) C (c_X3_links hs hb1 h) (shc_52 hs) rfl nq_598 nq_599 nq_600 nq_35 nq_601 (by decide +kernel) rfl rfl (rmR (by omega) (by decide)) (Nat.le_of_ble_eq_true rfl) dX3_grow_114 (fun r114 σ114 h => ?_)
      refine ww_if_eq (tgt := 131) C dX3_grow_117 (by decide) (fun hc => ?_) (fun hc => ?_)
      · have h := h.1 hc
        refine ww_iload C 5 rfl dX3_grow_131 ?_
        refine ww_aload_n C 1 rfl dX3_grow_133 ?_
        refine ww_getR C (shc_52 hs) rfl inG3 3 (by decide) nq_105 rfl dX3_grow_134 ?_
        refine ww_iload C 7 rfl dX3_grow_137 ?_
        refine ww_iald C (shc_55 hs) h.1 dX3_grow_139 ?_
        have h := h.2
        refine ww_ishr C dX3_grow_140 ?_
        refine ww_iconst (v := 1) C dX3_grow_141 (by decide) ?_
        refine ww_iand C dX3_grow_142 ?_
        refine ww_if_ne (tgt := 170) C dX3_grow_143 (by decide) (fun hc => ?_) (fun hc => ?_)
        · have h := h.1 hc
          refine ww_iinc (v := (x6 + 1)) (lv' := [(6, .int (x6 + 1)), (8, .int t0), (0, .ref 52), (1, .ref b1), (2, .int a2), (3, .int a3), (4, .int a4), (5, .int x5), (7, .int x7)]) C 7 rfl dX3_grow_170 rfl (by decide) rfl ?_
          refine ww_goto (tgt := 22) C dX3_grow_173 (by decide) ?_
          refine ww_sub [2, 3, 4, 5, 6, 7, 0] rfl ?_
          exact hRc _ _ h
        · have h := h.2 hc
          refine ww_aload_n C 1 rfl dX3_grow_146 ?_
          refine ww_aload_n C 2 rfl dX3_grow_147 ?_
          refine ww_iload_n C 3 rfl dX3_grow_148 ?_
          refine ww_iconst (v := 1) C dX3_grow_149 (by decide) ?_
          refine ww_iadd C dX3_grow_150 ?_
          refine ww_iload_n C 4 rfl dX3_grow_151 ?_
          refine ww_iload C 8 rfl dX3_grow_152 ?_
          refine ww_ior C dX3_grow_154 ?_
          refine ww_iload C 5 rfl dX3_grow_155 ?_
          refine ww_iconst (v := 1) C dX3_grow_157 (by decide) ?_
          refine ww_aload_n C 1 rfl dX3_grow_158 ?_
          refine ww_getR C (shc_52 hs) rfl inG3 2 (by decide) nq_104 rfl dX3_grow_159 ?_
          refine ww_iload C 7 rfl dX3_grow_162 ?_
          refine ww_iald C (shc_54 hs) h.1 dX3_grow_164 ?_
          have h := h.2
          refine ww_ishl C dX3_grow_165 ?_
          refine ww_ior C dX3_grow_166 ?_
          refine ww_sv (n := 5) (As := [.ref 52, .ref b1, .int (a2 + 1), .int (a3 ||| x7), .int (a4 ||| ((1 : Int32) <<< ((σ114.1 54 x6.toNatClampNeg) &&& 31)))]) (rest := []) C (hG h) nq_595 nq_596 nq_35 nq_597 (by decide +kernel) rfl rfl (rmR (by omega) (by decide)) (Nat.le_of_ble_eq_true rfl) dX3_grow_167 (fun σ167 h => ?_)
          refine ww_iinc (v := (x6 + 1)) (lv' := [(6, .int (x6 + 1)), (8, .int t0), (0, .ref 52), (1, .ref b1), (2, .int a2), (3, .int a3), (4, .int a4), (5, .int x5), (7, .int x7)]) C 7 rfl dX3_grow_170 rfl (by decide) rfl ?_
          refine ww_goto (tgt := 22) C dX3_grow_173 (by decide) ?_
          refine ww_sub [2, 3, 4, 5, 6, 7, 0] rfl ?_
          exact hRc _ _ h
      · have h := h.2 hc
        refine ww_aload_n C 1 rfl dX3_grow_120 ?_
        refine ww_aload_n C 2 rfl dX3_grow_121 ?_
        refine ww_iload_n C 3 rfl dX3_grow_122 ?_
        refine ww_iconst (v := 1) C dX3_grow_123 (by decide) ?_
        refine ww_iadd C dX3_grow_124 ?_
        refine ww_vv (n := 2) (As := [.ref b1, .int (a2 + 1)]) (rest := []) C (c_X3_tallyRing hs hb1 h) (shc_52 hs) rfl nq_603 nq_604 nq_605 nq_35 nq_606 (by decide +kernel) rfl rfl (rmR (by omega) (by decide)) (Nat.le_of_ble_eq_true rfl) dX3_grow_125 (fun σ125 h => ?_)
        refine ww_goto (tgt := 170) C dX3_grow_128 (by decide) ?_
        refine ww_iinc (v := (x6 + 1)) (lv' := [(6, .int (x6 + 1)), (8, .int t0), (0, .ref 52), (1, .ref b1), (2, .int a2), (3, .int a3), (4, .int a4), (5, .int x5), (7, .int x7)]) C 7 rfl dX3_grow_170 rfl (by decide) rfl ?_
        refine ww_goto (tgt := 22) C dX3_grow_173 (by decide) ?_
        refine ww_sub [2, 3, 4, 5, 6, 7, 0] rfl ?_
        exact hRc _ _ h
set_option maxRecDepth 100000 in
set_option maxHeartbeats 4000000 in
theorem w_X3_grow_J74 {p : Program} {l : Launch} {e : Env} {s : State} {m : MethodId} {args : Array Value} {below : List Frame} {meth : Method} {c : Code} {dC : Nat → ClassId} {dI : Nat → Nat → Nat} {cA : Nat → ClassId} {A : Nat → Prop} {al : Nat → Nat} {sh : List Kd} (C : Fx p s m args c cX3_grow 9 yX3_grow.cls dC dI cA A al) (hr : meth.sig.returnType = none) (hlk : meth.locks = false) (hs : ShC sh) {b1 : Nat} (hb1 : isRow sh b1) {a2 : Int32} {a3 : Int32} {a4 : Int32} {Q : St → Prop} {D : Nat} {G : Nat → St → Int32 → Int32 → Int32 → (St → Prop) → Prop} (hG : ∀ {σ : St} {a2 : Int32} {a3 : Int32} {a4 : Int32} {Q : St → Prop}, G b1 σ a2 a3 a4 Q → ∀ sz, Met l yX3_grow (wd yX3_grow cX3_grow 9 none) (RM (2 + D)) (va_Pc ([.ref 52, .ref b1, .int a2, .int a3, .int a4].map (cv al)) (WPre dC dI cA al sh σ sz)) (va_Qv Q (WPost dC dI cA al sh (AW al sh sz)) (AW al sh sz)) 0 0 (AW al sh sz)) {x5 : Int32} {K176 : St → Prop} (hK176 : ∀ (σ : St), K176 σ → WW p l e (RM (2 + (D + 1))) s m args below meth c (MQ below (va_Qv Q (WPost dC dI cA al sh A) A) args s 0 0 A) dC dI cA A 9 0 0 al sh 176 [] [] σ) {Rc : St → Int32 → Prop} (hRc : ∀ (σ : St) (x6 : Int32), Rc σ x6 → WW p l e (RM (2 + (D + 1))) s m args below meth c (MQ below (va_Qv Q (WPost dC dI cA al sh A) A) args s 0 0 A) dC dI cA A 9 0 0 al sh 22 [(0, .ref 52), (1, .ref b1), (2, .int a2), (3, .int a3), (4, .int a4), (5, .int x5), (6, .int x6)] [] σ) {σ : St} {x6 : Int32} {x7 : Int32} (h : m_X3_grow_J74 b1 a2 a3 a4 Q G x5 K176 Rc σ x6 x7) : WW p l e (RM (2 + (D + 1))) s m args below meth c (MQ below (va_Qv Q (WPost dC dI cA al sh A) A) args s 0 0 A) dC dI cA A 9 0 0 al sh 74 [(0, .ref 52), (1, .ref b1), (2, .int a2), (3, .int a3), (4, .int a4), (5, .int x5), (6, .int x6), (7, .int x7)] [] σ := by
  unfold m_X3_grow_J74 at h
  refine ww_iconst (v := 0) C dX3_grow_74 (by decide) ?_
  exact w_X3_grow_J75 (Q := Q) (a2 := a2) (a3 := a3) (a4 := a4) C hr hlk hs hb1 hG hK176 hRc h
set_option maxRecDepth 100000 in
set_option maxHeartbeats 4000000 in
theorem w_X3_grow_L22b {p : Program} {l : Launch} {e : Env} {s : State} {m : MethodId} {args : Array Value} {below : List Frame} {meth : Method} {c : Code} {dC : Nat → ClassId} {dI : Nat → Nat → Nat} {cA : Nat → ClassId} {A : Nat → Prop} {al : Nat → Nat} {sh : List Kd} (C : Fx p s m args c cX3_grow 9 yX3_grow.cls dC dI cA A al) (hr : meth.sig.returnType = none) (hlk : meth.locks = false) (hs : ShC sh) {b1 : Nat} (hb1 : isRow sh b1) {a2 : Int32} {a3 : Int32} {a4 : Int32} {Q : St → Prop} {D : Nat} {G : Nat → St → Int32 → Int32 → Int32 → (St → Prop) → Prop} (hG : ∀ {σ : St} {a2 : Int32} {a3 : Int32} {a4 : Int32} {Q : St → Prop}, G b1 σ a2 a3 a4 Q → ∀ sz, Met l yX3_grow (wd yX3_grow cX3_grow 9 none) (RM (2 + D)) (va_Pc ([.ref 52, .ref b1, .int a2, .int a3, .int a4].map (cv al)) (WPre dC dI cA al sh σ sz)) (va_Qv Q (WPost dC dI cA al sh (AW al sh sz)) (AW al sh sz)) 0 0 (AW al sh sz)) {x5 : Int32} {K176 : St → Prop} (hK176 : ∀ (σ : St), K176 σ → WW p l e (RM (2 + (D + 1))) s m args below meth c (MQ below (va_Qv Q (WPost dC dI cA al sh A) A) args s 0 0 A) dC dI cA A 9 0 0 al sh 176 [] [] σ) {Rc : St → Int32 → Prop} (hRc : ∀ (σ : St) (x6 : Int32), Rc σ x6 → WW p l e (RM (2 + (D + 1))) s m args below meth c (MQ below (va_Qv Q (WPost dC dI cA al sh A) A) args s 0 0 A) dC dI cA A 9 0 0 al sh 22 [(0, .ref 52), (1, .ref b1), (2, .int a2), (3, .int a3), (4, .int a4), (5, .int x5), (6, .int x6)] [] σ) {σ : St} {x6 : Int32} (h : m_X3_grow_L22b b1 a2 a3 a4 Q G x5 K176 Rc σ x6) : WW p l e (RM (2 + (D + 1))) s m args below meth c (MQ below (va_Qv Q (WPost dC dI cA al sh A) A) args s 0 0 A) dC dI cA A 9 0 0 al sh 22 [(0, .ref 52), (1, .ref b1), (2, .int a2), (3, .int a3), (4, .int a4), (5, .int x5), (6, .int x6)] [] σ := by
  unfold m_X3_grow_L22b at h
  refine ww_iload C 6 rfl dX3_grow_22 ?_
  refine ww_aload_n C 0 rfl dX3_grow_24 ?_
  refine ww_getI C (shc_52 hs) rfl inG3 0 (by decide) nq_560 rfl dX3_grow_25 ?_
  refine ww_icmp_ge (tgt := 176) C dX3_grow_28 (by decide) (fun hc => ?_) (fun hc => ?_)
  · have h := h.1 hc
    refine ww_sub [] rfl ?_
    exact hK176 _ h
  · have h := h.2 hc
    refine ww_iconst (v := 1) C dX3_grow_31 (by decide) ?_
    refine ww_aload_n C 1 rfl dX3_grow_32 ?_
    refine ww_aload_n C 0 rfl dX3_grow_33 ?_
    refine ww_getR C (shc_52 hs) rfl inG3 1 (by decide) nq_103 rfl dX3_grow_34 ?_
    refine ww_iload C 6 rfl dX3_grow_37 ?_
    refine ww_iald C (shc_53 hs) h.1 dX3_grow_39 ?_
    have h := h.2
    refine ww_vi (n := 1) (As := [.int (σ.1 53 x6.toNatClampNeg)]) (rest := [.int 1]) C (c_X4_threadAt hb1 h) (row_o hb1) rfl nq_594 nq_304 nq_305 nq_19 nq_306 (by decide +kernel) rfl rfl (rmR (by omega) (by decide)) (Nat.le_of_ble_eq_true rfl) dX3_grow_40 (fun r40 σ40 h => ?_)
    refine ww_ishl C dX3_grow_43 ?_
    refine ww_nmI h (fun y44 h => ?_)
    refine ww_istore (lv' := [(7, .int y44), (0, .ref 52), (1, .ref b1), (2, .int a2), (3, .int a3), (4, .int a4), (5, .int x5), (6, .int x6)]) C dX3_grow_44 (by decide) rfl ?_
    refine ww_aload_n C 1 rfl dX3_grow_46 ?_
    refine ww_getR C (shc_52 hs) rfl inG3 1 (by decide) nq_103 rfl dX3_grow_47 ?_
    refine ww_iload C 7 rfl dX3_grow_50 ?_
    refine ww_iald C (shc_53 hs) h.1 dX3_grow_52 ?_
    have h := h.2
    refine ww_aload_n C 1 rfl dX3_grow_53 ?_
    refine ww_getR C (shc_52 hs) rfl inG3 1 (by decide) nq_103 rfl dX3_grow_54 ?_
    refine ww_iload C 6 rfl dX3_grow_57 ?_
    refine ww_iald C (shc_53 hs) h.1 dX3_grow_59 ?_
    have h := h.2
    refine ww_icmp_le (tgt := 74) C dX3_grow_60 (by decide) (fun hc => ?_) (fun hc => ?_)
    · have h := h.1 hc
      refine ww_sub [1, 2, 3, 4, 5, 6, 7, 0] rfl ?_
      exact w_X3_grow_J74 (Q := Q) (a2 := a2) (a3 := a3) (a4 := a4) C hr hlk hs hb1 hG hK176 hRc h
    · have h := h.2 hc
      refine ww_iload_n C 4 rfl dX3_grow_63 ?_
      refine ww_iload C 0 rfl dX3_grow_64 ?_
      refine ww_iand C dX3_grow_66 ?_
      refine ww_if_ne (tgt := 74) C dX3_grow_67 (by decide) (fun hc => ?_) (fun hc => ?_)
      · have h := h.1 hc
        refine ww_sub [1, 2, 3, 4, 5, 6, 7, 0] rfl ?_
        exact w_X3_grow_J74 (Q := Q) (a2 := a2) (a3 := a3) (a4 := a4) C hr hlk hs hb1 hG hK176 hRc h
      · have h := h.2 hc
        refine ww_iconst (v := 1) C dX3_grow_70 (by decide) ?_
        refine ww_goto (tgt := 75) C dX3_grow_71 (by decide) ?_
        refine ww_sub [1, 2, 3, 4, 5, 6, 7, 0] rfl ?_
        exact w_X3_grow_J75 (Q := Q) (a2 := a2) (a3 := a3) (a4 := a4) C hr hlk hs hb1 hG hK176 hRc h
set_option maxRecDepth 100000 in
set_option maxHeartbeats 4000000 in
theorem w_X3_grow_L22 {p : Program} {l : Launch} {e : Env} {s : State} {m : MethodId} {args : Array Value} {below : List Frame} {meth : Method} {c : Code} {dC : Nat → ClassId} {dI : Nat → Nat → Nat} {cA : Nat → ClassId} {A : Nat → Prop} {al : Nat → Nat} {sh : List Kd} (C : Fx p s m args c cX3_grow 9 yX3_grow.cls dC dI cA A al) (hr : meth.sig.returnType = none) (hlk : meth.locks = false) (hs : ShC sh) {b1 : Nat} (hb1 : isRow sh b1) {a2 : Int32} {a3 : Int32} {a4 : Int32} {Q : St → Prop} {D : Nat} {G : Nat → St → Int32 → Int32 → Int32 → (St → Prop) → Prop} (hG : ∀ {σ : St} {a2 : Int32} {a3 : Int32} {a4 : Int32} {Q : St → Prop}, G b1 σ a2 a3 a4 Q → ∀ sz, Met l yX3_grow (wd yX3_grow cX3_grow 9 none) (RM (2 + D)) (va_Pc ([.ref 52, .ref b1, .int a2, .int a3, .int a4].map (cv al)) (WPre dC dI cA al sh σ sz)) (va_Qv Q (WPost dC dI cA al sh (AW al sh sz)) (AW al sh sz)) 0 0 (AW al sh sz)) {x5 : Int32} {K176 : St → Prop} (hK176 : ∀ (σ : St), K176 σ → WW p l e (RM (2 + (D + 1))) s m args below meth c (MQ below (va_Qv Q (WPost dC dI cA al sh A) A) args s 0 0 A) dC dI cA A 9 0 0 al sh 176 [] [] σ) : ∀ (f : Nat) (σ : St) (x6 : Int32), m_X3_grow_L22 b1 a2 a3 a4 Q G x5 K176 f σ x6 → WW p l e (RM (2 + (D + 1))) s m args below meth c (MQ below (va_Qv Q (WPost dC dI cA al sh A) A) args s 0 0 A) dC dI cA A 9 0 0 al sh 22 [(0, .ref 52), (1, .ref b1), (2, .int a2), (3, .int a3), (4, .int a4), (5, .int x5), (6, .int x6)] [] σ := by
  intro f
  induction f with
  | zero => intro σ x6 h; exact False.elim h
  | succ f ih => intro σ x6 h; exact w_X3_grow_L22b (Q := Q) (a2 := a2) (a3 := a3) (a4 := a4) C hr hlk hs hb1 hG hK176 ih h
set_option maxRecDepth 100000 in
set_option maxHeartbeats 4000000 in
theorem w_X3_grow_J176 {p : Program} {l : Launch} {e : Env} {s : State} {m : MethodId} {args : Array Value} {below : List Frame} {meth : Method} {c : Code} {dC : Nat → ClassId} {dI : Nat → Nat → Nat} {cA : Nat → ClassId} {A : Nat → Prop} {al : Nat → Nat} {sh : List Kd} (C : Fx p s m args c cX3_grow 9 yX3_grow.cls dC dI cA A al) (hr : meth.sig.returnType = none) (hlk : meth.locks = false) (hs : ShC sh) {b1 : Nat} (hb1 : isRow sh b1) {a2 : Int32} {a3 : Int32} {a4 : Int32} {Q : St → Prop} {D : Nat} {G : Nat → St → Int32 → Int32 → Int32 → (St → Prop) → Prop} (hG : ∀ {σ : St} {a2 : Int32} {a3 : Int32} {a4 : Int32} {Q : St → Prop}, G b1 σ a2 a3 a4 Q → ∀ sz, Met l yX3_grow (wd yX3_grow cX3_grow 9 none) (RM (2 + D)) (va_Pc ([.ref 52, .ref b1, .int a2, .int a3, .int a4].map (cv al)) (WPre dC dI cA al sh σ sz)) (va_Qv Q (WPost dC dI cA al sh (AW al sh sz)) (AW al sh sz)) 0 0 (AW al sh sz)) {σ : St} (h : m_X3_grow_J176 b1 a2 a3 a4 Q G σ) : WW p l e (RM (2 + (D + 1))) s m args below meth c (MQ below (va_Qv Q (WPost dC dI cA al sh A) A) args s 0 0 A) dC dI cA A 9 0 0 al sh 176 [] [] σ := by
  unfold m_X3_grow_J176 at h
  exact ww_vret C hr hlk h dX3_grow_176
set_option maxRecDepth 100000 in
set_option maxHeartbeats 4000000 in
theorem c_X3_grow {l : Launch} {dC : Nat → ClassId} {dI : Nat → Nat → Nat} {cA : Nat → ClassId} {al : Nat → Nat} {sh : List Kd} (hs : ShC sh) {b1 : Nat} (hb1 : isRow sh b1) : ∀ (D : Nat) {σ : St} {a2 : Int32} {a3 : Int32} {a4 : Int32} {Q : St → Prop}, m_X3_grow D b1 σ a2 a3 a4 Q → ∀ sz, Met l yX3_grow (wd yX3_grow cX3_grow 9 none) (RM (2 + D)) (va_Pc ([.ref 52, .ref b1, .int a2, .int a3, .int a4].map (cv al)) (WPre dC dI cA al sh σ sz)) (va_Qv Q (WPost dC dI cA al sh (AW al sh sz)) (AW al sh sz)) 0 0 (AW al sh sz) := by
  intro D
  induction D with
  | zero => intro σ a2 a3 a4 Q h; exact False.elim h
  | succ D ih =>
    intro σ a2 a3 a4 Q h
    have hG : ∀ {σ : St} {a2 : Int32} {a3 : Int32} {a4 : Int32} {Q : St → Prop}, m_X3_grow D b1 σ a2 a3 a4 Q → ∀ sz, Met l yX3_grow (wd yX3_grow cX3_grow 9 none) (RM (2 + D)) (va_Pc ([.ref 52, .ref b1, .int a2, .int a3, .int a4].map (cv al)) (WPre dC dI cA al sh σ sz)) (va_Qv Q (WPost dC dI cA al sh (AW al sh sz)) (AW al sh sz)) 0 0 (AW al sh sz) := fun h => ih h
    refine ww_met (Qc := fun A => va_Qv Q (WPost dC dI cA al sh A) A) (by decide +kernel) (Nat.le_of_ble_eq_true rfl) (fun p e s m args below meth c A C hr hlk => ?_)
    show WW p l e (RM (2 + (D + 1))) s m args below meth c (MQ below (va_Qv Q (WPost dC dI cA al sh A) A) args s 0 0 A) dC dI cA A 9 0 0 al sh 0 [(0, .ref 52), (1, .ref b1), (2, .int a2), (3, .int a3), (4, .int a4)] [] σ
    change m_X3_growB (m_X3_grow D) b1 σ a2 a3 a4 Q at h
    unfold m_X3_growB at h
    refine ww_iload_n C 2 rfl dX3_grow_0 ?_
    refine ww_iconst (v := 1) C dX3_grow_1 (by decide) ?_
    refine ww_icmp_lt (tgt := 10) C dX3_grow_2 (by decide) (fun hc => ?_) (fun hc => ?_)
    · have h := h.1 hc
      exact ww_vret C hr hlk h dX3_grow_10
    · have h := h.2 hc
      refine ww_iload_n C 2 rfl dX3_grow_5 ?_
      refine ww_iconst (v := 4) C dX3_grow_6 (by decide) ?_
      refine ww_icmp_lt (tgt := 11) C dX3_grow_7 (by decide) (fun hc => ?_) (fun hc => ?_)
      · have h := h.1 hc
        refine ww_aload_n C 0 rfl dX3_grow_11 ?_
        refine ww_getR C (shc_52 hs) rfl inG3 6 (by decide) nq_107 rfl dX3_grow_12 ?_
        refine ww_iconst (v := 0) C dX3_grow_15 (by decide) ?_
        refine ww_iald C (shc_57 hs) (by unfold vp_in; decide) dX3_grow_16 ?_
        refine ww_nmI h (fun y17 h => ?_)
        refine ww_istore (lv' := [(5, .int y17), (0, .ref 52), (1, .ref b1), (2, .int a2), (3, .int a3), (4, .int a4)]) C dX3_grow_17 (by decide) rfl ?_
        refine ww_iconst (v := 0) C dX3_grow_19 (by decide) ?_
        refine ww_istore (lv' := [(6, .int 0), (5, .int y17), (0, .ref 52), (1, .ref b1), (2, .int a2), (3, .int a3), (4, .int a4)]) C dX3_grow_20 (by decide) rfl ?_
        refine ww_sub [2, 3, 4, 5, 6, 1, 0] rfl ?_
        obtain ⟨f, h⟩ := h
        exact w_X3_grow_L22 (Q := Q) (a2 := a2) (a3 := a3) (a4 := a4) C hr hlk hs hb1 hG (fun σ h => by exact w_X3_grow_J176 (Q := Q) (a2 := a2) (a3 := a3) (a4 := a4) C hr hlk hs hb1 hG h) f _ _ h
      · have h := h.2 hc
        exact ww_vret C hr hlk h dX3_grow_10
set_option maxRecDepth 100000 in
set_option maxHeartbeats 4000000 in
theorem w_X3_find_L21b {p : Program} {l : Launch} {e : Env} {s : State} {m : MethodId} {args : Array Value} {below : List Frame} {meth : Method} {c : Code} {dC : Nat → ClassId} {dI : Nat → Nat → Nat} {cA : Nat → ClassId} {A : Nat → Prop} {al : Nat → Nat} {sh : List Kd} (C : Fx p s m args c cX3_find 3 yX3_find.cls dC dI cA A al) (hr : meth.sig.returnType = none) (hlk : meth.locks = false) (hs : ShC sh) {b1 : Nat} (hb1 : isRow sh b1) {Q : St → Prop} {K68 : St → Prop} (hK68 : ∀ (σ : St), K68 σ → WW p l e (RM 8) s m args below meth c (MQ below (va_Qv Q (WPost dC dI cA al sh A) A) args s 0 0 A) dC dI cA A 3 0 0 al sh 68 [] [] σ) {Rc : St → Int32 → Prop} (hRc : ∀ (σ : St) (x2 : Int32), Rc σ x2 → WW p l e (RM 8) s m args below meth c (MQ below (va_Qv Q (WPost dC dI cA al sh A) A) args s 0 0 A) dC dI cA A 3 0 0 al sh 21 [(0, .ref 52), (1, .ref b1), (2, .int x2)] [] σ) {σ : St} {x2 : Int32} (h : m_X3_find_L21b b1 Q K68 Rc σ x2) : WW p l e (RM 8) s m args below meth c (MQ below (va_Qv Q (WPost dC dI cA al sh A) A) args s 0 0 A) dC dI cA A 3 0 0 al sh 21 [(0, .ref 52), (1, .ref b1), (2, .int x2)] [] σ := by
  unfold m_X3_find_L21b at h
  refine ww_iload_n C 2 rfl dX3_find_21 ?_
  refine ww_aload_n C 0 rfl dX3_find_22 ?_
  refine ww_getI C (shc_52 hs) rfl inG3 0 (by decide) nq_560 rfl dX3_find_23 ?_
  refine ww_icmp_ge (tgt := 68) C dX3_find_26 (by decide) (fun hc => ?_) (fun hc => ?_)
  · have h := h.1 hc
    refine ww_sub [] rfl ?_
    exact hK68 _ h
  · have h := h.2 hc
    refine ww_aload_n C 0 rfl dX3_find_29 ?_
    refine ww_getR C (shc_52 hs) rfl inG3 6 (by decide) nq_107 rfl dX3_find_30 ?_
    refine ww_iconst (v := 0) C dX3_find_33 (by decide) ?_
    refine ww_iload_n C 2 rfl dX3_find_34 ?_
    refine ww_iast C (shc_57 hs) h.1 dX3_find_35 h.2 (fun σ35 h => ?_)
    refine ww_aload_n C 0 rfl dX3_find_36 ?_
    refine ww_aload_n C 1 rfl dX3_find_37 ?_
    refine ww_iconst (v := 1) C dX3_find_38 (by decide) ?_
    refine ww_iconst (v := 1) C dX3_find_39 (by decide) ?_
    refine ww_aload_n C 1 rfl dX3_find_40 ?_
    refine ww_aload_n C 0 rfl dX3_find_41 ?_
    refine ww_getR C (shc_52 hs) rfl inG3 1 (by decide) nq_103 rfl dX3_find_42 ?_
    refine ww_iload_n C 2 rfl dX3_find_45 ?_
    refine ww_iald C (shc_53 hs) h.1 dX3_find_46 ?_
    have h := h.2
    refine ww_vi (n := 1) (As := [.int (σ35.1 53 x2.toNatClampNeg)]) (rest := [.int 1, .int 1, .ref b1, .ref 52]) C (c_X4_threadAt hb1 h) (row_o hb1) rfl nq_594 nq_304 nq_305 nq_19 nq_306 (by decide +kernel) rfl rfl ⟨Nat.le_of_ble_eq_true rfl, Nat.le_of_ble_eq_true rfl, Nat.le_of_ble_eq_true rfl, Nat.le_of_ble_eq_true rfl⟩ (Nat.le_of_ble_eq_true rfl) dX3_find_47 (fun r47 σ47 h => ?_)
    refine ww_ishl C dX3_find_50 ?_
    refine ww_iconst (v := 1) C dX3_find_51 (by decide) ?_
    refine ww_aload_n C 0 rfl dX3_find_52 ?_
    refine ww_getR C (shc_52 hs) rfl inG3 2 (by decide) nq_104 rfl dX3_find_53 ?_
    refine ww_iload_n C 2 rfl dX3_find_56 ?_
    refine ww_iald C (shc_54 hs) h.1 dX3_find_57 ?_
    have h := h.2
    refine ww_ishl C dX3_find_58 ?_
    refine ww_sv (n := 5) (As := [.ref 52, .ref b1, .int 1, .int ((1 : Int32) <<< (r47 &&& 31)), .int ((1 : Int32) <<< ((σ47.1 54 x2.toNatClampNeg) &&& 31))]) (rest := []) C (c_X3_grow hs hb1 5 h) nq_595 nq_596 nq_35 nq_597 (by decide +kernel) rfl rfl ⟨Nat.le_of_ble_eq_true rfl, Nat.le_of_ble_eq_true rfl, Nat.le_of_ble_eq_true rfl, Nat.le_of_ble_eq_true rfl⟩ (Nat.le_of_ble_eq_true rfl) dX3_find_59 (fun σ59 h => ?_)
    refine ww_iinc (v := (x2 + 1)) (lv' := [(2, .int (x2 + 1)), (0, .ref 52), (1, .ref b1)]) C 2 rfl dX3_find_62 rfl (by decide) rfl ?_
    refine ww_goto (tgt := 21) C dX3_find_65 (by decide) ?_
    refine ww_sub [1, 2, 0] rfl ?_
    exact hRc _ _ h
set_option maxRecDepth 100000 in
set_option maxHeartbeats 4000000 in
theorem w_X3_find_L21 {p : Program} {l : Launch} {e : Env} {s : State} {m : MethodId} {args : Array Value} {below : List Frame} {meth : Method} {c : Code} {dC : Nat → ClassId} {dI : Nat → Nat → Nat} {cA : Nat → ClassId} {A : Nat → Prop} {al : Nat → Nat} {sh : List Kd} (C : Fx p s m args c cX3_find 3 yX3_find.cls dC dI cA A al) (hr : meth.sig.returnType = none) (hlk : meth.locks = false) (hs : ShC sh) {b1 : Nat} (hb1 : isRow sh b1) {Q : St → Prop} {K68 : St → Prop} (hK68 : ∀ (σ : St), K68 σ → WW p l e (RM 8) s m args below meth c (MQ below (va_Qv Q (WPost dC dI cA al sh A) A) args s 0 0 A) dC dI cA A 3 0 0 al sh 68 [] [] σ) : ∀ (f : Nat) (σ : St) (x2 : Int32), m_X3_find_L21 b1 Q K68 f σ x2 → WW p l e (RM 8) s m args below meth c (MQ below (va_Qv Q (WPost dC dI cA al sh A) A) args s 0 0 A) dC dI cA A 3 0 0 al sh 21 [(0, .ref 52), (1, .ref b1), (2, .int x2)] [] σ := by
  intro f
  induction f with
  | zero => intro σ x2 h; exact False.elim h
  | succ f ih => intro σ x2 h; exact w_X3_find_L21b (Q := Q) C hr hlk hs hb1 hK68 ih h
set_option maxRecDepth 100000 in
set_option maxHeartbeats 4000000 in
theorem w_X3_find_J68 {p : Program} {l : Launch} {e : Env} {s : State} {m : MethodId} {args : Array Value} {below : List Frame} {meth : Method} {c : Code} {dC : Nat → ClassId} {dI : Nat → Nat → Nat} {cA : Nat → ClassId} {A : Nat → Prop} {al : Nat → Nat} {sh : List Kd} (C : Fx p s m args c cX3_find 3 yX3_find.cls dC dI cA A al) (hr : meth.sig.returnType = none) (hlk : meth.locks = false) (hs : ShC sh) {b1 : Nat} (hb1 : isRow sh b1) {Q : St → Prop} {σ : St} (h : m_X3_find_J68 b1 Q σ) : WW p l e (RM 8) s m args below meth c (MQ below (va_Qv Q (WPost dC dI cA al sh A) A) args s 0 0 A) dC dI cA A 3 0 0 al sh 68 [] [] σ := by
  unfold m_X3_find_J68 at h
  exact ww_vret C hr hlk h dX3_find_68
set_option maxRecDepth 100000 in
set_option maxHeartbeats 4000000 in
theorem c_X3_find {l : Launch} {dC : Nat → ClassId} {dI : Nat → Nat → Nat} {cA : Nat → ClassId} {al : Nat → Nat} {sh : List Kd} (hs : ShC sh) {b1 : Nat} (hb1 : isRow sh b1) {σ : St} {Q : St → Prop} (h : m_X3_find b1 σ Q) : ∀ sz, Met l yX3_find (wd yX3_find cX3_find 3 none) (RM 8) (va_Pc ([.ref 52, .ref b1].map (cv al)) (WPre dC dI cA al sh σ sz)) (va_Qv Q (WPost dC dI cA al sh (AW al sh sz)) (AW al sh sz)) 0 0 (AW al sh sz) := by
  refine ww_met (Qc := fun A => va_Qv Q (WPost dC dI cA al sh A) A) (by decide +kernel) (Nat.le_of_ble_eq_true rfl) (fun p e s m args below meth c A C hr hlk => ?_)
  show WW p l e (RM 8) s m args below meth c (MQ below (va_Qv Q (WPost dC dI cA al sh A) A) args s 0 0 A) dC dI cA A 3 0 0 al sh 0 [(0, .ref 52), (1, .ref b1)] [] σ
  unfold m_X3_find at h
  refine ww_aload_n C 0 rfl dX3_find_0 ?_
  refine ww_aload_n C 1 rfl dX3_find_1 ?_
  refine ww_vv (n := 1) (As := [.ref b1]) (rest := []) C (c_X3_collect hs hb1 h) (shc_52 hs) rfl nq_592 nq_557 nq_558 nq_35 nq_559 (by decide +kernel) rfl rfl ⟨Nat.le_of_ble_eq_true rfl, Nat.le_of_ble_eq_true rfl, Nat.le_of_ble_eq_true rfl, Nat.le_of_ble_eq_true rfl⟩ (Nat.le_of_ble_eq_true rfl) dX3_find_2 (fun σ2 h => ?_)
  refine ww_aload_n C 0 rfl dX3_find_5 ?_
  refine ww_getR C (shc_52 hs) rfl inG3 4 (by decide) nq_106 rfl dX3_find_6 ?_
  refine ww_iconst (v := 0) C dX3_find_9 (by decide) ?_
  refine ww_sv (n := 2) (As := [.ref 56, .int 0]) (rest := []) C (c_J7_fill_53178 (shc_56 hs) h) nq_593 nq_75 nq_76 nq_77 (by decide +kernel) rfl rfl ⟨Nat.le_of_ble_eq_true rfl, Nat.le_of_ble_eq_true rfl, Nat.le_of_ble_eq_true rfl, Nat.le_of_ble_eq_true rfl⟩ (Nat.le_of_ble_eq_true rfl) dX3_find_10 (fun σ10 h => ?_)
  refine ww_aload_n C 0 rfl dX3_find_13 ?_
  refine ww_bipush (v := -9) C dX3_find_14 (by decide) ?_
  refine ww_putI C (shc_52 hs) rfl inG3 5 (by decide) nq_108 tyX3 tyX3_ok nmX3 rfl (by decide +kernel) rfl dX3_find_16 h (fun σ16 h => ?_)
  refine ww_iconst (v := 0) C dX3_find_19 (by decide) ?_
  refine ww_istore_n (lv' := [(2, .int 0), (0, .ref 52), (1, .ref b1)]) C dX3_find_20 rfl (by decide) rfl ?_
  refine ww_sub [1, 2, 0] rfl ?_
  obtain ⟨f, h⟩ := h
  exact w_X3_find_L21 (Q := Q) C hr hlk hs hb1 (fun σ h => by exact w_X3_find_J68 (Q := Q) C hr hlk hs hb1 h) f _ _ h
set_option maxRecDepth 100000 in
set_option maxHeartbeats 4000000 in
theorem c_X4_pack {l : Launch} {dC : Nat → ClassId} {dI : Nat → Nat → Nat} {cA : Nat → ClassId} {al : Nat → Nat} {sh : List Kd} {σ : St} {a0 : Int32} {a1 : Int32} {a2 : Int32} {Q : Int32 → St → Prop} (h : m_X4_pack σ a0 a1 a2 Q) : ∀ sz, Met l yX4_pack (wd yX4_pack cX4_pack 3 (some .int)) (RM 0) (va_Pc ([.int a0, .int a1, .int a2].map (cv al)) (WPre dC dI cA al sh σ sz)) (va_Qi Q (WPost dC dI cA al sh (AW al sh sz)) (AW al sh sz)) 0 0 (AW al sh sz) := by
  refine ww_met (Qc := fun A => va_Qi Q (WPost dC dI cA al sh A) A) (by decide +kernel) (Nat.le_of_ble_eq_true rfl) (fun p e s m args below meth c A C hr hlk => ?_)
  show WW p l e (RM 0) s m args below meth c (MQ below (va_Qi Q (WPost dC dI cA al sh A) A) args s 0 0 A) dC dI cA A 3 0 0 al sh 0 [(0, .int a0), (1, .int a1), (2, .int a2)] [] σ
  unfold m_X4_pack at h
  refine ww_iload_n C 1 rfl dX4_pack_0 ?_
  refine ww_iconst (v := 4) C dX4_pack_1 (by decide) ?_
  refine ww_ishl C dX4_pack_2 ?_
  refine ww_iload_n C 0 rfl dX4_pack_3 ?_
  refine ww_iconst (v := 3) C dX4_pack_4 (by decide) ?_
  refine ww_iand C dX4_pack_5 ?_
  refine ww_iconst (v := 2) C dX4_pack_6 (by decide) ?_
  refine ww_ishl C dX4_pack_7 ?_
  refine ww_ior C dX4_pack_8 ?_
  refine ww_iload_n C 2 rfl dX4_pack_9 ?_
  refine ww_iconst (v := 3) C dX4_pack_10 (by decide) ?_
  refine ww_iand C dX4_pack_11 ?_
  refine ww_ior C dX4_pack_12 ?_
  exact ww_iret C hr hlk h dX4_pack_13
set_option maxRecDepth 100000 in
set_option maxHeartbeats 4000000 in
theorem w_X4_copy_L6b {p : Program} {l : Launch} {e : Env} {s : State} {m : MethodId} {args : Array Value} {below : List Frame} {meth : Method} {c : Code} {dC : Nat → ClassId} {dI : Nat → Nat → Nat} {cA : Nat → ClassId} {A : Nat → Prop} {al : Nat → Nat} {sh : List Kd} (C : Fx p s m args c cX4_copy 3 yX4_copy.cls dC dI cA A al) (hr : meth.sig.returnType = none) (hlk : meth.locks = false) {b0 : Nat} {b1 : Nat} (hb0 : isRow sh b0) (hb1 : isRow sh b1) {Q : St → Prop} {K31 : St → Prop} (hK31 : ∀ (σ : St), K31 σ → WW p l e (RM 3) s m args below meth c (MQ below (va_Qv Q (WPost dC dI cA al sh A) A) args s 0 0 A) dC dI cA A 3 0 0 al sh 31 [] [] σ) {Rc : St → Int32 → Prop} (hRc : ∀ (σ : St) (x2 : Int32), Rc σ x2 → WW p l e (RM 3) s m args below meth c (MQ below (va_Qv Q (WPost dC dI cA al sh A) A) args s 0 0 A) dC dI cA A 3 0 0 al sh 6 [(0, .ref b0), (1, .ref b1), (2, .int x2)] [] σ) {σ : St} {x2 : Int32} (h : m_X4_copy_L6b b0 b1 Q K31 Rc σ x2) : WW p l e (RM 3) s m args below meth c (MQ below (va_Qv Q (WPost dC dI cA al sh A) A) args s 0 0 A) dC dI cA A 3 0 0 al sh 6 [(0, .ref b0), (1, .ref b1), (2, .int x2)] [] σ := by
  unfold m_X4_copy_L6b at h
  refine ww_iload_n C 2 rfl dX4_copy_6 ?_
  refine ww_aload_n C 1 rfl dX4_copy_7 ?_
  refine ww_getI C (row_o hb1) rfl inG4 0 (by decide) nq_82 rfl dX4_copy_8 ?_
  refine ww_icmp_ge (tgt := 31) C dX4_copy_11 (by decide) (fun hc => ?_) (fun hc => ?_)
  · have h := h.1 hc
    refine ww_sub [] rfl ?_
    exact hK31 _ h
  · have h := h.2 hc
    refine ww_aload_n C 0 rfl dX4_copy_14 ?_
    refine ww_aload_n C 1 rfl dX4_copy_15 ?_
    refine ww_getR C (row_o hb1) rfl inG4 1 (by decide) nq_52 rfl dX4_copy_16 ?_
    refine ww_iload_n C 2 rfl dX4_copy_19 ?_
    refine ww_iald C (row_1 hb1) h.1 dX4_copy_20 ?_
    have h := h.2
    refine ww_vi (n := 1) (As := [.int (σ.1 (b1 + 1) x2.toNatClampNeg)]) (rest := []) C (c_X4_put hb0 h) (row_o hb0) rfl nq_285 nq_213 nq_214 nq_19 nq_215 (by decide +kernel) rfl rfl ⟨Nat.le_of_ble_eq_true rfl, Nat.le_of_ble_eq_true rfl, Nat.le_of_ble_eq_true rfl, Nat.le_of_ble_eq_true rfl⟩ (Nat.le_of_ble_eq_true rfl) dX4_copy_21 (fun r21 σ21 h => ?_)
    refine ww_pop C rfl dX4_copy_24 ?_
    refine ww_iinc (v := (x2 + 1)) (lv' := [(2, .int (x2 + 1)), (0, .ref b0), (1, .ref b1)]) C 2 rfl dX4_copy_25 rfl (by decide) rfl ?_
    refine ww_goto (tgt := 6) C dX4_copy_28 (by decide) ?_
    refine ww_sub [1, 2, 0] rfl ?_
    exact hRc _ _ h
set_option maxRecDepth 100000 in
set_option maxHeartbeats 4000000 in
theorem w_X4_copy_L6 {p : Program} {l : Launch} {e : Env} {s : State} {m : MethodId} {args : Array Value} {below : List Frame} {meth : Method} {c : Code} {dC : Nat → ClassId} {dI : Nat → Nat → Nat} {cA : Nat → ClassId} {A : Nat → Prop} {al : Nat → Nat} {sh : List Kd} (C : Fx p s m args c cX4_copy 3 yX4_copy.cls dC dI cA A al) (hr : meth.sig.returnType = none) (hlk : meth.locks = false) {b0 : Nat} {b1 : Nat} (hb0 : isRow sh b0) (hb1 : isRow sh b1) {Q : St → Prop} {K31 : St → Prop} (hK31 : ∀ (σ : St), K31 σ → WW p l e (RM 3) s m args below meth c (MQ below (va_Qv Q (WPost dC dI cA al sh A) A) args s 0 0 A) dC dI cA A 3 0 0 al sh 31 [] [] σ) : ∀ (f : Nat) (σ : St) (x2 : Int32), m_X4_copy_L6 b0 b1 Q K31 f σ x2 → WW p l e (RM 3) s m args below meth c (MQ below (va_Qv Q (WPost dC dI cA al sh A) A) args s 0 0 A) dC dI cA A 3 0 0 al sh 6 [(0, .ref b0), (1, .ref b1), (2, .int x2)] [] σ := by
  intro f
  induction f with
  | zero => intro σ x2 h; exact False.elim h
  | succ f ih => intro σ x2 h; exact w_X4_copy_L6b (Q := Q) C hr hlk hb0 hb1 hK31 ih h
set_option maxRecDepth 100000 in
set_option maxHeartbeats 4000000 in
theorem w_X4_copy_J31 {p : Program} {l : Launch} {e : Env} {s : State} {m : MethodId} {args : Array Value} {below : List Frame} {meth : Method} {c : Code} {dC : Nat → ClassId} {dI : Nat → Nat → Nat} {cA : Nat → ClassId} {A : Nat → Prop} {al : Nat → Nat} {sh : List Kd} (C : Fx p s m args c cX4_copy 3 yX4_copy.cls dC dI cA A al) (hr : meth.sig.returnType = none) (hlk : meth.locks = false) {b0 : Nat} {b1 : Nat} (hb0 : isRow sh b0) (hb1 : isRow sh b1) {Q : St → Prop} {σ : St} (h : m_X4_copy_J31 b0 b1 Q σ) : WW p l e (RM 3) s m args below meth c (MQ below (va_Qv Q (WPost dC dI cA al sh A) A) args s 0 0 A) dC dI cA A 3 0 0 al sh 31 [] [] σ := by
  unfold m_X4_copy_J31 at h
  exact ww_vret C hr hlk h dX4_copy_31
set_option maxRecDepth 100000 in
set_option maxHeartbeats 4000000 in
theorem c_X4_copy {l : Launch} {dC : Nat → ClassId} {dI : Nat → Nat → Nat} {cA : Nat → ClassId} {al : Nat → Nat} {sh : List Kd} {b0 : Nat} {b1 : Nat} (hb0 : isRow sh b0) (hb1 : isRow sh b1) {σ : St} {Q : St → Prop} (h : m_X4_copy b0 b1 σ Q) : ∀ sz, Met l yX4_copy (wd yX4_copy cX4_copy 3 none) (RM 3) (va_Pc ([.ref b0, .ref b1].map (cv al)) (WPre dC dI cA al sh σ sz)) (va_Qv Q (WPost dC dI cA al sh (AW al sh sz)) (AW al sh sz)) 0 0 (AW al sh sz) := by
  refine ww_met (Qc := fun A => va_Qv Q (WPost dC dI cA al sh A) A) (by decide +kernel) (Nat.le_of_ble_eq_true rfl) (fun p e s m args below meth c A C hr hlk => ?_)
  show WW p l e (RM 3) s m args below meth c (MQ below (va_Qv Q (WPost dC dI cA al sh A) A) args s 0 0 A) dC dI cA A 3 0 0 al sh 0 [(0, .ref b0), (1, .ref b1)] [] σ
  unfold m_X4_copy at h
  refine ww_aload_n C 0 rfl dX4_copy_0 ?_
  refine ww_vv (n := 0) (As := []) (rest := []) C (c_X4_begin hb0 h) (row_o hb0) rfl nq_78 nq_79 nq_80 nq_19 nq_81 (by decide +kernel) rfl rfl ⟨Nat.le_of_ble_eq_true rfl, Nat.le_of_ble_eq_true rfl, Nat.le_of_ble_eq_true rfl, Nat.le_of_ble_eq_true rfl⟩ (Nat.le_of_ble_eq_true rfl) dX4_copy_1 (fun σ1 h => ?_)
  refine ww_iconst (v := 0) C dX4_copy_4 (by decide) ?_
  refine ww_istore_n (lv' := [(2, .int 0), (0, .ref b0), (1, .ref b1)]) C dX4_copy_5 rfl (by decide) rfl ?_
  refine ww_sub [1, 2, 0] rfl ?_
  obtain ⟨f, h⟩ := h
  exact w_X4_copy_L6 (Q := Q) C hr hlk hb0 hb1 (fun σ h => by exact w_X4_copy_J31 (Q := Q) C hr hlk hb0 hb1 h) f _ _ h
set_option maxRecDepth 100000 in
set_option maxHeartbeats 4000000 in
theorem c_X4_has {l : Launch} {dC : Nat → ClassId} {dI : Nat → Nat → Nat} {cA : Nat → ClassId} {al : Nat → Nat} {sh : List Kd} {b0 : Nat} (hb0 : isRow sh b0) {σ : St} {a1 : Int32} {Q : Int32 → St → Prop} (h : m_X4_has b0 σ a1 Q) : ∀ sz, Met l yX4_has (wd yX4_has cX4_has 2 (some .boolean)) (RM 0) (va_Pc ([.ref b0, .int a1].map (cv al)) (WPre dC dI cA al sh σ sz)) (va_Qi Q (WPost dC dI cA al sh (AW al sh sz)) (AW al sh sz)) 0 0 (AW al sh sz) := by
  refine ww_met (Qc := fun A => va_Qi Q (WPost dC dI cA al sh A) A) (by decide +kernel) (Nat.le_of_ble_eq_true rfl) (fun p e s m args below meth c A C hr hlk => ?_)
  show WW p l e (RM 0) s m args below meth c (MQ below (va_Qi Q (WPost dC dI cA al sh A) A) args s 0 0 A) dC dI cA A 2 0 0 al sh 0 [(0, .ref b0), (1, .int a1)] [] σ
  unfold m_X4_has at h
  refine ww_iload_n C 1 rfl dX4_has_0 ?_
  refine ww_if_lt (tgt := 16) C dX4_has_1 (by decide) (fun hc => ?_) (fun hc => ?_)
  · have h := h.1 hc
    refine ww_iconst (v := 0) C dX4_has_16 (by decide) ?_
    exact ww_zret C hr hlk (by decide) h dX4_has_17
  · have h := h.2 hc
    refine ww_iload_n C 1 rfl dX4_has_4 ?_
    refine ww_aload_n C 0 rfl dX4_has_5 ?_
    refine ww_getI C (row_o hb0) rfl inG4 0 (by decide) nq_82 rfl dX4_has_6 ?_
    refine ww_icmp_ge (tgt := 16) C dX4_has_9 (by decide) (fun hc => ?_) (fun hc => ?_)
    · have h := h.1 hc
      refine ww_iconst (v := 0) C dX4_has_16 (by decide) ?_
      exact ww_zret C hr hlk (by decide) h dX4_has_17
    · have h := h.2 hc
      refine ww_iconst (v := 1) C dX4_has_12 (by decide) ?_
      refine ww_goto (tgt := 17) C dX4_has_13 (by decide) ?_
      exact ww_zret C hr hlk (by decide) h dX4_has_17
set_option maxRecDepth 100000 in
set_option maxHeartbeats 4000000 in
theorem w_X4_takeOut_L25b {p : Program} {l : Launch} {e : Env} {s : State} {m : MethodId} {args : Array Value} {below : List Frame} {meth : Method} {c : Code} {dC : Nat → ClassId} {dI : Nat → Nat → Nat} {cA : Nat → ClassId} {A : Nat → Prop} {al : Nat → Nat} {sh : List Kd} (C : Fx p s m args c cX4_takeOut 5 yX4_takeOut.cls dC dI cA A al) (hr : meth.sig.returnType = some .boolean) (hlk : meth.locks = false) {b0 : Nat} (hb0 : isRow sh b0) {a1 : Int32} {Q : Int32 → St → Prop} {x2 : Int32} {x3 : Int32} {K55 : St → Prop} (hK55 : ∀ (σ : St), K55 σ → WW p l e (RM 4) s m args below meth c (MQ below (va_Qi Q (WPost dC dI cA al sh A) A) args s 0 0 A) dC dI cA A 5 0 0 al sh 55 [(0, .ref b0), (1, .int a1), (2, .int x2), (3, .int x3)] [] σ) {Rc : St → Int32 → Prop} (hRc : ∀ (σ : St) (x4 : Int32), Rc σ x4 → WW p l e (RM 4) s m args below meth c (MQ below (va_Qi Q (WPost dC dI cA al sh A) A) args s 0 0 A) dC dI cA A 5 0 0 al sh 25 [(0, .ref b0), (1, .int a1), (2, .int x2), (3, .int x3), (4, .int x4)] [] σ) {σ : St} {x4 : Int32} (h : m_X4_takeOut_L25b b0 a1 Q x2 x3 K55 Rc σ x4) : WW p l e (RM 4) s m args below meth c (MQ below (va_Qi Q (WPost dC dI cA al sh A) A) args s 0 0 A) dC dI cA A 5 0 0 al sh 25 [(0, .ref b0), (1, .int a1), (2, .int x2), (3, .int x3), (4, .int x4)] [] σ := by
  unfold m_X4_takeOut_L25b at h
  refine ww_iload C 4 rfl dX4_takeOut_25 ?_
  refine ww_iload_n C 2 rfl dX4_takeOut_27 ?_
  refine ww_iconst (v := 1) C dX4_takeOut_28 (by decide) ?_
  refine ww_isub C dX4_takeOut_29 ?_
  refine ww_icmp_ge (tgt := 55) C dX4_takeOut_30 (by decide) (fun hc => ?_) (fun hc => ?_)
  · have h := h.1 hc
    refine ww_sub [0, 1, 2, 3] rfl ?_
    exact hK55 _ h
  · have h := h.2 hc
    refine ww_aload_n C 0 rfl dX4_takeOut_33 ?_
    refine ww_getR C (row_o hb0) rfl inG4 1 (by decide) nq_52 rfl dX4_takeOut_34 ?_
    refine ww_iload C 4 rfl dX4_takeOut_37 ?_
    refine ww_aload_n C 0 rfl dX4_takeOut_39 ?_
    refine ww_getR C (row_o hb0) rfl inG4 1 (by decide) nq_52 rfl dX4_takeOut_40 ?_
    refine ww_iload C 4 rfl dX4_takeOut_43 ?_
    refine ww_iconst (v := 1) C dX4_takeOut_45 (by decide) ?_
    refine ww_iadd C dX4_takeOut_46 ?_
    refine ww_iald C (row_1 hb0) h.1 dX4_takeOut_47 ?_
    have h := h.2
    refine ww_iast C (row_1 hb0) h.1 dX4_takeOut_48 h.2 (fun σ48 h => ?_)
    refine ww_iinc (v := (x4 + 1)) (lv' := [(4, .int (x4 + 1)), (0, .ref b0), (1, .int a1), (2, .int x2), (3, .int x3)]) C 4 rfl dX4_takeOut_49 rfl (by decide) rfl ?_
    refine ww_goto (tgt := 25) C dX4_takeOut_52 (by decide) ?_
    refine ww_sub [1, 2, 3, 4, 0] rfl ?_
    exact hRc _ _ h
set_option maxRecDepth 100000 in
set_option maxHeartbeats 4000000 in
theorem w_X4_takeOut_L25 {p : Program} {l : Launch} {e : Env} {s : State} {m : MethodId} {args : Array Value} {below : List Frame} {meth : Method} {c : Code} {dC : Nat → ClassId} {dI : Nat → Nat → Nat} {cA : Nat → ClassId} {A : Nat → Prop} {al : Nat → Nat} {sh : List Kd} (C : Fx p s m args c cX4_takeOut 5 yX4_takeOut.cls dC dI cA A al) (hr : meth.sig.returnType = some .boolean) (hlk : meth.locks = false) {b0 : Nat} (hb0 : isRow sh b0) {a1 : Int32} {Q : Int32 → St → Prop} {x2 : Int32} {x3 : Int32} {K55 : St → Prop} (hK55 : ∀ (σ : St), K55 σ → WW p l e (RM 4) s m args below meth c (MQ below (va_Qi Q (WPost dC dI cA al sh A) A) args s 0 0 A) dC dI cA A 5 0 0 al sh 55 [(0, .ref b0), (1, .int a1), (2, .int x2), (3, .int x3)] [] σ) : ∀ (f : Nat) (σ : St) (x4 : Int32), m_X4_takeOut_L25 b0 a1 Q x2 x3 K55 f σ x4 → WW p l e (RM 4) s m args below meth c (MQ below (va_Qi Q (WPost dC dI cA al sh A) A) args s 0 0 A) dC dI cA A 5 0 0 al sh 25 [(0, .ref b0), (1, .int a1), (2, .int x2), (3, .int x3), (4, .int x4)] [] σ := by
  intro f
  induction f with
  | zero => intro σ x4 h; exact False.elim h
  | succ f ih => intro σ x4 h; exact w_X4_takeOut_L25b (Q := Q) (a1 := a1) C hr hlk hb0 hK55 ih h
set_option maxRecDepth 100000 in
set_option maxHeartbeats 4000000 in
theorem w_X4_takeOut_J55 {p : Program} {l : Launch} {e : Env} {s : State} {m : MethodId} {args : Array Value} {below : List Frame} {meth : Method} {c : Code} {dC : Nat → ClassId} {dI : Nat → Nat → Nat} {cA : Nat → ClassId} {A : Nat → Prop} {al : Nat → Nat} {sh : List Kd} (C : Fx p s m args c cX4_takeOut 5 yX4_takeOut.cls dC dI cA A al) (hr : meth.sig.returnType = some .boolean) (hlk : meth.locks = false) {b0 : Nat} (hb0 : isRow sh b0) {a1 : Int32} {Q : Int32 → St → Prop} {σ : St} {x2 : Int32} {x3 : Int32} (h : m_X4_takeOut_J55 b0 a1 Q σ x2 x3) : WW p l e (RM 4) s m args below meth c (MQ below (va_Qi Q (WPost dC dI cA al sh A) A) args s 0 0 A) dC dI cA A 5 0 0 al sh 55 [(0, .ref b0), (1, .int a1), (2, .int x2), (3, .int x3)] [] σ := by
  unfold m_X4_takeOut_J55 at h
  refine ww_aload_n C 0 rfl dX4_takeOut_55 ?_
  refine ww_iload_n C 2 rfl dX4_takeOut_56 ?_
  refine ww_iconst (v := 1) C dX4_takeOut_57 (by decide) ?_
  refine ww_isub C dX4_takeOut_58 ?_
  refine ww_vi (n := 1) (As := [.int (x2 - 1)]) (rest := []) C (c_X4_replay hb0 h) (row_o hb0) rfl nq_351 nq_352 nq_353 nq_19 nq_354 (by decide +kernel) rfl rfl ⟨Nat.le_of_ble_eq_true rfl, Nat.le_of_ble_eq_true rfl, Nat.le_of_ble_eq_true rfl, Nat.le_of_ble_eq_true rfl⟩ (Nat.le_of_ble_eq_true rfl) dX4_takeOut_59 (fun r59 σ59 h => ?_)
  refine ww_if_eq (tgt := 67) C dX4_takeOut_62 (by decide) (fun hc => ?_) (fun hc => ?_)
  · have h := h.1 hc
    refine ww_aload_n C 0 rfl dX4_takeOut_67 ?_
    refine ww_iload_n C 1 rfl dX4_takeOut_68 ?_
    refine ww_iload_n C 3 rfl dX4_takeOut_69 ?_
    refine ww_iload_n C 2 rfl dX4_takeOut_70 ?_
    refine ww_vv (n := 3) (As := [.int a1, .int x3, .int x2]) (rest := []) C (c_X4_open hb0 h) (row_o hb0) rfl nq_355 nq_356 nq_357 nq_19 nq_358 (by decide +kernel) rfl rfl ⟨Nat.le_of_ble_eq_true rfl, Nat.le_of_ble_eq_true rfl, Nat.le_of_ble_eq_true rfl, Nat.le_of_ble_eq_true rfl⟩ (Nat.le_of_ble_eq_true rfl) dX4_takeOut_71 (fun σ71 h => ?_)
    refine ww_aload_n C 0 rfl dX4_takeOut_74 ?_
    refine ww_iload_n C 2 rfl dX4_takeOut_75 ?_
    refine ww_vi (n := 1) (As := [.int x2]) (rest := []) C (c_X4_replay hb0 h) (row_o hb0) rfl nq_351 nq_352 nq_353 nq_19 nq_354 (by decide +kernel) rfl rfl ⟨Nat.le_of_ble_eq_true rfl, Nat.le_of_ble_eq_true rfl, Nat.le_of_ble_eq_true rfl, Nat.le_of_ble_eq_true rfl⟩ (Nat.le_of_ble_eq_true rfl) dX4_takeOut_76 (fun r76 σ76 h => ?_)
    refine ww_pop C rfl dX4_takeOut_79 ?_
    refine ww_iconst (v := 0) C dX4_takeOut_80 (by decide) ?_
    exact ww_zret C hr hlk (by decide) h dX4_takeOut_81
  · have h := h.2 hc
    refine ww_iconst (v := 1) C dX4_takeOut_65 (by decide) ?_
    exact ww_zret C hr hlk (by decide) h dX4_takeOut_66
set_option maxRecDepth 100000 in
set_option maxHeartbeats 4000000 in
theorem c_X4_takeOut {l : Launch} {dC : Nat → ClassId} {dI : Nat → Nat → Nat} {cA : Nat → ClassId} {al : Nat → Nat} {sh : List Kd} {b0 : Nat} (hb0 : isRow sh b0) {σ : St} {a1 : Int32} {Q : Int32 → St → Prop} (h : m_X4_takeOut b0 σ a1 Q) : ∀ sz, Met l yX4_takeOut (wd yX4_takeOut cX4_takeOut 5 (some .boolean)) (RM 4) (va_Pc ([.ref b0, .int a1].map (cv al)) (WPre dC dI cA al sh σ sz)) (va_Qi Q (WPost dC dI cA al sh (AW al sh sz)) (AW al sh sz)) 0 0 (AW al sh sz) := by
  refine ww_met (Qc := fun A => va_Qi Q (WPost dC dI cA al sh A) A) (by decide +kernel) (Nat.le_of_ble_eq_true rfl) (fun p e s m args below meth c A C hr hlk => ?_)
  show WW p l e (RM 4) s m args below meth c (MQ below (va_Qi Q (WPost dC dI cA al sh A) A) args s 0 0 A) dC dI cA A 5 0 0 al sh 0 [(0, .ref b0), (1, .int a1)] [] σ
  unfold m_X4_takeOut at h
  refine ww_aload_n C 0 rfl dX4_takeOut_0 ?_
  refine ww_iload_n C 1 rfl dX4_takeOut_1 ?_
  refine ww_vi (n := 1) (As := [.int a1]) (rest := []) C (c_X4_has hb0 h) (row_o hb0) rfl nq_350 nq_300 nq_301 nq_19 nq_302 (by decide +kernel) rfl rfl ⟨Nat.le_of_ble_eq_true rfl, Nat.le_of_ble_eq_true rfl, Nat.le_of_ble_eq_true rfl, Nat.le_of_ble_eq_true rfl⟩ (Nat.le_of_ble_eq_true rfl) dX4_takeOut_2 (fun r2 σ2 h => ?_)
  refine ww_if_ne (tgt := 10) C dX4_takeOut_5 (by decide) (fun hc => ?_) (fun hc => ?_)
  · have h := h.1 hc
    refine ww_aload_n C 0 rfl dX4_takeOut_10 ?_
    refine ww_getI C (row_o hb0) rfl inG4 0 (by decide) nq_82 rfl dX4_takeOut_11 ?_
    refine ww_nmI h (fun y14 h => ?_)
    refine ww_istore_n (lv' := [(2, .int y14), (0, .ref b0), (1, .int a1)]) C dX4_takeOut_14 rfl (by decide) rfl ?_
    refine ww_aload_n C 1 rfl dX4_takeOut_15 ?_
    refine ww_getR C (row_o hb0) rfl inG4 1 (by decide) nq_52 rfl dX4_takeOut_16 ?_
    refine ww_iload_n C 2 rfl dX4_takeOut_19 ?_
    refine ww_iald C (row_1 hb0) h.1 dX4_takeOut_20 ?_
    have h := h.2
    refine ww_nmI h (fun y21 h => ?_)
    refine ww_istore_n (lv' := [(3, .int y21), (2, .int y14), (0, .ref b0), (1, .int a1)]) C dX4_takeOut_21 rfl (by decide) rfl ?_
    refine ww_iload_n C 3 rfl dX4_takeOut_22 ?_
    refine ww_istore (lv' := [(4, .int a1), (3, .int y21), (2, .int y14), (0, .ref b0), (1, .int a1)]) C dX4_takeOut_23 (by decide) rfl ?_
    refine ww_sub [3, 4, 2, 1, 0] rfl ?_
    obtain ⟨f, h⟩ := h
    exact w_X4_takeOut_L25 (Q := Q) (a1 := a1) C hr hlk hb0 (fun σ h => by exact w_X4_takeOut_J55 (Q := Q) (a1 := a1) C hr hlk hb0 h) f _ _ h
  · have h := h.2 hc
    refine ww_iconst (v := 0) C dX4_takeOut_8 (by decide) ?_
    exact ww_zret C hr hlk (by decide) h dX4_takeOut_9
set_option maxRecDepth 100000 in
set_option maxHeartbeats 4000000 in
theorem c_X5_put {l : Launch} {dC : Nat → ClassId} {dI : Nat → Nat → Nat} {cA : Nat → ClassId} {al : Nat → Nat} {sh : List Kd} (hs : ShC sh) {σ : St} {a1 : Int32} {a2 : Int32} {a3 : Int32} {Q : Int32 → St → Prop} (h : m_X5_put σ a1 a2 a3 Q) : ∀ sz, Met l yX5_put (wd yX5_put cX5_put 4 (some .boolean)) (RM 0) (va_Pc ([.ref 48, .int a1, .int a2, .int a3].map (cv al)) (WPre dC dI cA al sh σ sz)) (va_Qi Q (WPost dC dI cA al sh (AW al sh sz)) (AW al sh sz)) 0 0 (AW al sh sz) := by
  refine ww_met (Qc := fun A => va_Qi Q (WPost dC dI cA al sh A) A) (by decide +kernel) (Nat.le_of_ble_eq_true rfl) (fun p e s m args below meth c A C hr hlk => ?_)
  show WW p l e (RM 0) s m args below meth c (MQ below (va_Qi Q (WPost dC dI cA al sh A) A) args s 0 0 A) dC dI cA A 4 0 0 al sh 0 [(0, .ref 48), (1, .int a1), (2, .int a2), (3, .int a3)] [] σ
  unfold m_X5_put at h
  refine ww_aload_n C 0 rfl dX5_put_0 ?_
  refine ww_getI C (shc_48 hs) rfl inG5 0 (by decide) nq_715 rfl dX5_put_1 ?_
  refine ww_bipush (v := 6) C dX5_put_4 (by decide) ?_
  refine ww_icmp_lt (tgt := 11) C dX5_put_6 (by decide) (fun hc => ?_) (fun hc => ?_)
  · have h := h.1 hc
    refine ww_aload_n C 0 rfl dX5_put_11 ?_
    refine ww_getR C (shc_48 hs) rfl inG5 1 (by decide) nq_96 rfl dX5_put_12 ?_
    refine ww_aload_n C 0 rfl dX5_put_15 ?_
    refine ww_getI C (shc_48 hs) rfl inG5 0 (by decide) nq_715 rfl dX5_put_16 ?_
    refine ww_iload_n C 1 rfl dX5_put_19 ?_
    refine ww_iast C (shc_49 hs) h.1 dX5_put_20 h.2 (fun σ20 h => ?_)
    refine ww_aload_n C 0 rfl dX5_put_21 ?_
    refine ww_getR C (shc_48 hs) rfl inG5 2 (by decide) nq_97 rfl dX5_put_22 ?_
    refine ww_aload_n C 0 rfl dX5_put_25 ?_
    refine ww_getI C (shc_48 hs) rfl inG5 0 (by decide) nq_715 rfl dX5_put_26 ?_
    refine ww_iload_n C 2 rfl dX5_put_29 ?_
    refine ww_iast C (shc_50 hs) h.1 dX5_put_30 h.2 (fun σ30 h => ?_)
    refine ww_aload_n C 0 rfl dX5_put_31 ?_
    refine ww_getR C (shc_48 hs) rfl inG5 3 (by decide) nq_98 rfl dX5_put_32 ?_
    refine ww_aload_n C 0 rfl dX5_put_35 ?_
    refine ww_getI C (shc_48 hs) rfl inG5 0 (by decide) nq_715 rfl dX5_put_36 ?_
    refine ww_iload_n C 3 rfl dX5_put_39 ?_
    refine ww_zast C (shc_51 hs) h.1 dX5_put_40 h.2 (fun σ40 h => ?_)
    refine ww_aload_n C 0 rfl dX5_put_41 ?_
    refine ww_dup C rfl dX5_put_42 ?_
    refine ww_getI C (shc_48 hs) rfl inG5 0 (by decide) nq_715 rfl dX5_put_43 ?_
    refine ww_iconst (v := 1) C dX5_put_46 (by decide) ?_
    refine ww_iadd C dX5_put_47 ?_
    refine ww_putI C (shc_48 hs) rfl inG5 0 (by decide) nq_715 tyX5 tyX5_ok nmX5 rfl (by decide +kernel) rfl dX5_put_48 h (fun σ48 h => ?_)
    refine ww_iconst (v := 1) C dX5_put_51 (by decide) ?_
    exact ww_zret C hr hlk (by decide) h dX5_put_52
  · have h := h.2 hc
    refine ww_iconst (v := 0) C dX5_put_9 (by decide) ?_
    exact ww_zret C hr hlk (by decide) h dX5_put_10
set_option maxRecDepth 100000 in
set_option maxHeartbeats 4000000 in
theorem w_X5_fits_J58 {p : Program} {l : Launch} {e : Env} {s : State} {m : MethodId} {args : Array Value} {below : List Frame} {meth : Method} {c : Code} {dC : Nat → ClassId} {dI : Nat → Nat → Nat} {cA : Nat → ClassId} {A : Nat → Prop} {al : Nat → Nat} {sh : List Kd} (C : Fx p s m args c cX5_fits 5 yX5_fits.cls dC dI cA A al) (hr : meth.sig.returnType = some .boolean) (hlk : meth.locks = false) (hs : ShC sh) {b1 : Nat} (hb1 : isRow sh b1) {a2 : Int32} {Q : Int32 → St → Prop} {K67 : St → Prop} (hK67 : ∀ (σ : St), K67 σ → WW p l e (RM 3) s m args below meth c (MQ below (va_Qi Q (WPost dC dI cA al sh A) A) args s 0 0 A) dC dI cA A 5 0 0 al sh 67 [] [] σ) {K75 : St → Prop} (hK75 : ∀ (σ : St), K75 σ → WW p l e (RM 3) s m args below meth c (MQ below (va_Qi Q (WPost dC dI cA al sh A) A) args s 0 0 A) dC dI cA A 5 0 0 al sh 75 [] [] σ) {Rc : St → Int32 → Prop} (hRc : ∀ (σ : St) (x3 : Int32), Rc σ x3 → WW p l e (RM 3) s m args below meth c (MQ below (va_Qi Q (WPost dC dI cA al sh A) A) args s 0 0 A) dC dI cA A 5 0 0 al sh 12 [(0, .ref 48), (1, .ref b1), (2, .int a2), (3, .int x3)] [] σ) {σ : St} {x3 : Int32} {t0 : Int32} (h : m_X5_fits_J58 b1 a2 Q K67 K75 Rc σ x3 t0) : WW p l e (RM 3) s m args below meth c (MQ below (va_Qi Q (WPost dC dI cA al sh A) A) args s 0 0 A) dC dI cA A 5 0 0 al sh 58 [(0, .ref 48), (1, .ref b1), (2, .int a2), (3, .int x3)] [.int t0] σ := by
  unfold m_X5_fits_J58 at h
  refine ww_aload_n C 0 rfl dX5_fits_58 ?_
  refine ww_getR C (shc_48 hs) rfl inG5 3 (by decide) nq_98 rfl dX5_fits_59 ?_
  refine ww_iload_n C 3 rfl dX5_fits_62 ?_
  refine ww_zald C (shc_51 hs) h.1 dX5_fits_63 ?_
  have h := h.2
  refine ww_icmp_eq (tgt := 69) C dX5_fits_64 (by decide) (fun hc => ?_) (fun hc => ?_)
  · have h := h.1 hc
    refine ww_iinc (v := (x3 + 1)) (lv' := [(3, .int (x3 + 1)), (0, .ref 48), (1, .ref b1), (2, .int a2)]) C 3 rfl dX5_fits_69 rfl (by decide) rfl ?_
    refine ww_goto (tgt := 12) C dX5_fits_72 (by decide) ?_
    refine ww_sub [1, 2, 3, 0] rfl ?_
    exact hRc _ _ h
  · have h := h.2 hc
    refine ww_sub [] rfl ?_
    exact hK67 _ h
set_option maxRecDepth 100000 in
set_option maxHeartbeats 4000000 in
theorem w_X5_fits_L12b {p : Program} {l : Launch} {e : Env} {s : State} {m : MethodId} {args : Array Value} {below : List Frame} {meth : Method} {c : Code} {dC : Nat → ClassId} {dI : Nat → Nat → Nat} {cA : Nat → ClassId} {A : Nat → Prop} {al : Nat → Nat} {sh : List Kd} (C : Fx p s m args c cX5_fits 5 yX5_fits.cls dC dI cA A al) (hr : meth.sig.returnType = some .boolean) (hlk : meth.locks = false) (hs : ShC sh) {b1 : Nat} (hb1 : isRow sh b1) {a2 : Int32} {Q : Int32 → St → Prop} {K67 : St → Prop} (hK67 : ∀ (σ : St), K67 σ → WW p l e (RM 3) s m args below meth c (MQ below (va_Qi Q (WPost dC dI cA al sh A) A) args s 0 0 A) dC dI cA A 5 0 0 al sh 67 [] [] σ) {K75 : St → Prop} (hK75 : ∀ (σ : St), K75 σ → WW p l e (RM 3) s m args below meth c (MQ below (va_Qi Q (WPost dC dI cA al sh A) A) args s 0 0 A) dC dI cA A 5 0 0 al sh 75 [] [] σ) {Rc : St → Int32 → Prop} (hRc : ∀ (σ : St) (x3 : Int32), Rc σ x3 → WW p l e (RM 3) s m args below meth c (MQ below (va_Qi Q (WPost dC dI cA al sh A) A) args s 0 0 A) dC dI cA A 5 0 0 al sh 12 [(0, .ref 48), (1, .ref b1), (2, .int a2), (3, .int x3)] [] σ) {σ : St} {x3 : Int32} (h : m_X5_fits_L12b b1 a2 Q K67 K75 Rc σ x3) : WW p l e (RM 3) s m args below meth c (MQ below (va_Qi Q (WPost dC dI cA al sh A) A) args s 0 0 A) dC dI cA A 5 0 0 al sh 12 [(0, .ref 48), (1, .ref b1), (2, .int a2), (3, .int x3)] [] σ := by
  unfold m_X5_fits_L12b at h
  refine ww_iload_n C 3 rfl dX5_fits_12 ?_
  refine ww_aload_n C 0 rfl dX5_fits_13 ?_
  refine ww_getI C (shc_48 hs) rfl inG5 0 (by decide) nq_715 rfl dX5_fits_14 ?_
  refine ww_icmp_ge (tgt := 75) C dX5_fits_17 (by decide) (fun hc => ?_) (fun hc => ?_)
  · have h := h.1 hc
    refine ww_sub [] rfl ?_
    exact hK75 _ h
  · have h := h.2 hc
    refine ww_aload_n C 1 rfl dX5_fits_20 ?_
    refine ww_aload_n C 0 rfl dX5_fits_21 ?_
    refine ww_getR C (shc_48 hs) rfl inG5 1 (by decide) nq_96 rfl dX5_fits_22 ?_
    refine ww_iload_n C 3 rfl dX5_fits_25 ?_
    refine ww_iald C (shc_49 hs) h.1 dX5_fits_26 ?_
    have h := h.2
    refine ww_aload_n C 1 rfl dX5_fits_27 ?_
    refine ww_getIN C (row_o hb1) rfl inG4 0 (by decide) (List.mem_of_getElem? (i := 22) rfl) rfl dX5_fits_28 ?_
    refine ww_iload_n C 2 rfl dX5_fits_31 ?_
    refine ww_bipush (v := 15) C dX5_fits_32 (by decide) ?_
    refine ww_si (n := 5) (As := [.ref b1, .int (σ.1 49 x3.toNatClampNeg), .int (σ.1 b1 0), .int a2, .int 15]) (rest := []) C (c_X1_watch hb1 h) nq_742 nq_437 nq_438 nq_439 (by decide +kernel) rfl rfl ⟨Nat.le_of_ble_eq_true rfl, Nat.le_of_ble_eq_true rfl, Nat.le_of_ble_eq_true rfl, Nat.le_of_ble_eq_true rfl⟩ (Nat.le_of_ble_eq_true rfl) dX5_fits_34 (fun r34 σ34 h => ?_)
    refine ww_istore (lv' := [(4, .int r34), (0, .ref 48), (1, .ref b1), (2, .int a2), (3, .int x3)]) C dX5_fits_37 (by decide) rfl ?_
    refine ww_iload C 0 rfl dX5_fits_39 ?_
    refine ww_si (n := 1) (As := [.int r34]) (rest := []) C (c_X1_stateOf h) nq_743 nq_452 nq_438 nq_453 (by decide +kernel) rfl rfl ⟨Nat.le_of_ble_eq_true rfl, Nat.le_of_ble_eq_true rfl, Nat.le_of_ble_eq_true rfl, Nat.le_of_ble_eq_true rfl⟩ (Nat.le_of_ble_eq_true rfl) dX5_fits_41 (fun r41 σ41 h => ?_)
    refine ww_aload_n C 1 rfl dX5_fits_44 ?_
    refine ww_getR C (shc_48 hs) rfl inG5 2 (by decide) nq_97 rfl dX5_fits_45 ?_
    refine ww_iload_n C 4 rfl dX5_fits_48 ?_
    refine ww_iald C (shc_50 hs) h.1 dX5_fits_49 ?_
    have h := h.2
    refine ww_icmp_ne (tgt := 57) C dX5_fits_50 (by decide) (fun hc => ?_) (fun hc => ?_)
    · have h := h.1 hc
      refine ww_iconst (v := 0) C dX5_fits_57 (by decide) ?_
      refine ww_sub [1, 2, 3, 4] rfl ?_
      exact w_X5_fits_J58 (Q := Q) (a2 := a2) C hr hlk hs hb1 hK67 hK75 hRc h
    · have h := h.2 hc
      refine ww_iconst (v := 1) C dX5_fits_53 (by decide) ?_
      refine ww_goto (tgt := 58) C dX5_fits_54 (by decide) ?_
      refine ww_sub [1, 2, 3, 4] rfl ?_
      exact w_X5_fits_J58 (Q := Q) (a2 := a2) C hr hlk hs hb1 hK67 hK75 hRc h
set_option maxRecDepth 100000 in
set_option maxHeartbeats 4000000 in
theorem w_X5_fits_L12 {p : Program} {l : Launch} {e : Env} {s : State} {m : MethodId} {args : Array Value} {below : List Frame} {meth : Method} {c : Code} {dC : Nat → ClassId} {dI : Nat → Nat → Nat} {cA : Nat → ClassId} {A : Nat → Prop} {al : Nat → Nat} {sh : List Kd} (C : Fx p s m args c cX5_fits 5 yX5_fits.cls dC dI cA A al) (hr : meth.sig.returnType = some .boolean) (hlk : meth.locks = false) (hs : ShC sh) {b1 : Nat} (hb1 : isRow sh b1) {a2 : Int32} {Q : Int32 → St → Prop} {K67 : St → Prop} (hK67 : ∀ (σ : St), K67 σ → WW p l e (RM 3) s m args below meth c (MQ below (va_Qi Q (WPost dC dI cA al sh A) A) args s 0 0 A) dC dI cA A 5 0 0 al sh 67 [] [] σ) {K75 : St → Prop} (hK75 : ∀ (σ : St), K75 σ → WW p l e (RM 3) s m args below meth c (MQ below (va_Qi Q (WPost dC dI cA al sh A) A) args s 0 0 A) dC dI cA A 5 0 0 al sh 75 [] [] σ) : ∀ (f : Nat) (σ : St) (x3 : Int32), m_X5_fits_L12 b1 a2 Q K67 K75 f σ x3 → WW p l e (RM 3) s m args below meth c (MQ below (va_Qi Q (WPost dC dI cA al sh A) A) args s 0 0 A) dC dI cA A 5 0 0 al sh 12 [(0, .ref 48), (1, .ref b1), (2, .int a2), (3, .int x3)] [] σ := by
  intro f
  induction f with
  | zero => intro σ x3 h; exact False.elim h
  | succ f ih => intro σ x3 h; exact w_X5_fits_L12b (Q := Q) (a2 := a2) C hr hlk hs hb1 hK67 hK75 ih h
set_option maxRecDepth 100000 in
set_option maxHeartbeats 4000000 in
theorem w_X5_fits_J67 {p : Program} {l : Launch} {e : Env} {s : State} {m : MethodId} {args : Array Value} {below : List Frame} {meth : Method} {c : Code} {dC : Nat → ClassId} {dI : Nat → Nat → Nat} {cA : Nat → ClassId} {A : Nat → Prop} {al : Nat → Nat} {sh : List Kd} (C : Fx p s m args c cX5_fits 5 yX5_fits.cls dC dI cA A al) (hr : meth.sig.returnType = some .boolean) (hlk : meth.locks = false) (hs : ShC sh) {b1 : Nat} (hb1 : isRow sh b1) {a2 : Int32} {Q : Int32 → St → Prop} {σ : St} (h : m_X5_fits_J67 b1 a2 Q σ) : WW p l e (RM 3) s m args below meth c (MQ below (va_Qi Q (WPost dC dI cA al sh A) A) args s 0 0 A) dC dI cA A 5 0 0 al sh 67 [] [] σ := by
  unfold m_X5_fits_J67 at h
  refine ww_iconst (v := 0) C dX5_fits_67 (by decide) ?_
  exact ww_zret C hr hlk (by decide) h dX5_fits_68
set_option maxRecDepth 100000 in
set_option maxHeartbeats 4000000 in
theorem w_X5_fits_J75 {p : Program} {l : Launch} {e : Env} {s : State} {m : MethodId} {args : Array Value} {below : List Frame} {meth : Method} {c : Code} {dC : Nat → ClassId} {dI : Nat → Nat → Nat} {cA : Nat → ClassId} {A : Nat → Prop} {al : Nat → Nat} {sh : List Kd} (C : Fx p s m args c cX5_fits 5 yX5_fits.cls dC dI cA A al) (hr : meth.sig.returnType = some .boolean) (hlk : meth.locks = false) (hs : ShC sh) {b1 : Nat} (hb1 : isRow sh b1) {a2 : Int32} {Q : Int32 → St → Prop} {σ : St} (h : m_X5_fits_J75 b1 a2 Q σ) : WW p l e (RM 3) s m args below meth c (MQ below (va_Qi Q (WPost dC dI cA al sh A) A) args s 0 0 A) dC dI cA A 5 0 0 al sh 75 [] [] σ := by
  unfold m_X5_fits_J75 at h
  refine ww_iconst (v := 1) C dX5_fits_75 (by decide) ?_
  exact ww_zret C hr hlk (by decide) h dX5_fits_76
set_option maxRecDepth 100000 in
set_option maxHeartbeats 4000000 in
theorem c_X5_fits {l : Launch} {dC : Nat → ClassId} {dI : Nat → Nat → Nat} {cA : Nat → ClassId} {al : Nat → Nat} {sh : List Kd} (hs : ShC sh) {b1 : Nat} (hb1 : isRow sh b1) {σ : St} {a2 : Int32} {Q : Int32 → St → Prop} (h : m_X5_fits b1 σ a2 Q) : ∀ sz, Met l yX5_fits (wd yX5_fits cX5_fits 5 (some .boolean)) (RM 3) (va_Pc ([.ref 48, .ref b1, .int a2].map (cv al)) (WPre dC dI cA al sh σ sz)) (va_Qi Q (WPost dC dI cA al sh (AW al sh sz)) (AW al sh sz)) 0 0 (AW al sh sz) := by
  refine ww_met (Qc := fun A => va_Qi Q (WPost dC dI cA al sh A) A) (by decide +kernel) (Nat.le_of_ble_eq_true rfl) (fun p e s m args below meth c A C hr hlk => ?_)
  show WW p l e (RM 3) s m args below meth c (MQ below (va_Qi Q (WPost dC dI cA al sh A) A) args s 0 0 A) dC dI cA A 5 0 0 al sh 0 [(0, .ref 48), (1, .ref b1), (2, .int a2)] [] σ
  unfold m_X5_fits at h
  refine ww_aload_n C 1 rfl dX5_fits_0 ?_
  refine ww_iload_n C 2 rfl dX5_fits_1 ?_
  refine ww_vi (n := 1) (As := [.int a2]) (rest := []) C (c_X4_isTouch hb1 h) (row_o hb1) rfl nq_741 nq_445 nq_446 nq_19 nq_447 (by decide +kernel) rfl rfl ⟨Nat.le_of_ble_eq_true rfl, Nat.le_of_ble_eq_true rfl, Nat.le_of_ble_eq_true rfl, Nat.le_of_ble_eq_true rfl⟩ (Nat.le_of_ble_eq_true rfl) dX5_fits_2 (fun r2 σ2 h => ?_)
  refine ww_if_ne (tgt := 10) C dX5_fits_5 (by decide) (fun hc => ?_) (fun hc => ?_)
  · have h := h.1 hc
    refine ww_iconst (v := 0) C dX5_fits_10 (by decide) ?_
    refine ww_istore_n (lv' := [(3, .int 0), (0, .ref 48), (1, .ref b1), (2, .int a2)]) C dX5_fits_11 rfl (by decide) rfl ?_
    refine ww_sub [1, 2, 3, 0] rfl ?_
    obtain ⟨f, h⟩ := h
    exact w_X5_fits_L12 (Q := Q) (a2 := a2) C hr hlk hs hb1 (fun σ h => by exact w_X5_fits_J67 (Q := Q) (a2 := a2) C hr hlk hs hb1 h) (fun σ h => by exact w_X5_fits_J75 (Q := Q) (a2 := a2) C hr hlk hs hb1 h) f _ _ h
  · have h := h.2 hc
    refine ww_iconst (v := 0) C dX5_fits_8 (by decide) ?_
    exact ww_zret C hr hlk (by decide) h dX5_fits_9
set_option maxRecDepth 100000 in
set_option maxHeartbeats 4000000 in
theorem w_X5_fittingCount_L4b {p : Program} {l : Launch} {e : Env} {s : State} {m : MethodId} {args : Array Value} {below : List Frame} {meth : Method} {c : Code} {dC : Nat → ClassId} {dI : Nat → Nat → Nat} {cA : Nat → ClassId} {A : Nat → Prop} {al : Nat → Nat} {sh : List Kd} (C : Fx p s m args c cX5_fittingCount 4 yX5_fittingCount.cls dC dI cA A al) (hr : meth.sig.returnType = some .int) (hlk : meth.locks = false) (hs : ShC sh) {b1 : Nat} (hb1 : isRow sh b1) {Q : Int32 → St → Prop} {K30 : St → Int32 → Prop} (hK30 : ∀ (σ : St) (x2 : Int32), K30 σ x2 → WW p l e (RM 4) s m args below meth c (MQ below (va_Qi Q (WPost dC dI cA al sh A) A) args s 0 0 A) dC dI cA A 4 0 0 al sh 30 [(2, .int x2)] [] σ) {Rc : St → Int32 → Int32 → Prop} (hRc : ∀ (σ : St) (x2 : Int32) (x3 : Int32), Rc σ x2 x3 → WW p l e (RM 4) s m args below meth c (MQ below (va_Qi Q (WPost dC dI cA al sh A) A) args s 0 0 A) dC dI cA A 4 0 0 al sh 4 [(0, .ref 48), (1, .ref b1), (2, .int x2), (3, .int x3)] [] σ) {σ : St} {x2 : Int32} {x3 : Int32} (h : m_X5_fittingCount_L4b b1 Q K30 Rc σ x2 x3) : WW p l e (RM 4) s m args below meth c (MQ below (va_Qi Q (WPost dC dI cA al sh A) A) args s 0 0 A) dC dI cA A 4 0 0 al sh 4 [(0, .ref 48), (1, .ref b1), (2, .int x2), (3, .int x3)] [] σ := by
  unfold m_X5_fittingCount_L4b at h
  refine ww_iload_n C 3 rfl dX5_fittingCount_4 ?_
  refine ww_aload_n C 1 rfl dX5_fittingCount_5 ?_
  refine ww_getIN C (row_o hb1) rfl inG4 0 (by decide) (List.mem_of_getElem? (i := 22) rfl) rfl dX5_fittingCount_6 ?_
  refine ww_icmp_ge (tgt := 30) C dX5_fittingCount_9 (by decide) (fun hc => ?_) (fun hc => ?_)
  · have h := h.1 hc
    refine ww_sub [2] rfl ?_
    exact hK30 _ _ h
  · have h := h.2 hc
    refine ww_aload_n C 0 rfl dX5_fittingCount_12 ?_
    refine ww_aload_n C 1 rfl dX5_fittingCount_13 ?_
    refine ww_iload_n C 3 rfl dX5_fittingCount_14 ?_
    refine ww_vi (n := 2) (As := [.ref b1, .int x3]) (rest := []) C (c_X5_fits hs hb1 h) (shc_48 hs) rfl nq_737 nq_738 nq_739 nq_31 nq_740 (by decide +kernel) rfl rfl ⟨Nat.le_of_ble_eq_true rfl, Nat.le_of_ble_eq_true rfl, Nat.le_of_ble_eq_true rfl, Nat.le_of_ble_eq_true rfl⟩ (Nat.le_of_ble_eq_true rfl) dX5_fittingCount_15 (fun r15 σ15 h => ?_)
    refine ww_if_eq (tgt := 24) C dX5_fittingCount_18 (by decide) (fun hc => ?_) (fun hc => ?_)
    · have h := h.1 hc
      refine ww_iinc (v := (x3 + 1)) (lv' := [(3, .int (x3 + 1)), (0, .ref 48), (1, .ref b1), (2, .int x2)]) C 3 rfl dX5_fittingCount_24 rfl (by decide) rfl ?_
      refine ww_goto (tgt := 4) C dX5_fittingCount_27 (by decide) ?_
      refine ww_sub [1, 2, 3, 0] rfl ?_
      exact hRc _ _ _ h
    · have h := h.2 hc
      refine ww_iinc (v := (x2 + 1)) (lv' := [(2, .int (x2 + 1)), (0, .ref 48), (1, .ref b1), (3, .int x3)]) C 2 rfl dX5_fittingCount_21 rfl (by decide) rfl ?_
      refine ww_iinc (v := (x3 + 1)) (lv' := [(3, .int (x3 + 1)), (2, .int (x2 + 1)), (0, .ref 48), (1, .ref b1)]) C 3 rfl dX5_fittingCount_24 rfl (by decide) rfl ?_
      refine ww_goto (tgt := 4) C dX5_fittingCount_27 (by decide) ?_
      refine ww_sub [2, 3, 1, 0] rfl ?_
      exact hRc _ _ _ h
set_option maxRecDepth 100000 in
set_option maxHeartbeats 4000000 in
theorem w_X5_fittingCount_L4 {p : Program} {l : Launch} {e : Env} {s : State} {m : MethodId} {args : Array Value} {below : List Frame} {meth : Method} {c : Code} {dC : Nat → ClassId} {dI : Nat → Nat → Nat} {cA : Nat → ClassId} {A : Nat → Prop} {al : Nat → Nat} {sh : List Kd} (C : Fx p s m args c cX5_fittingCount 4 yX5_fittingCount.cls dC dI cA A al) (hr : meth.sig.returnType = some .int) (hlk : meth.locks = false) (hs : ShC sh) {b1 : Nat} (hb1 : isRow sh b1) {Q : Int32 → St → Prop} {K30 : St → Int32 → Prop} (hK30 : ∀ (σ : St) (x2 : Int32), K30 σ x2 → WW p l e (RM 4) s m args below meth c (MQ below (va_Qi Q (WPost dC dI cA al sh A) A) args s 0 0 A) dC dI cA A 4 0 0 al sh 30 [(2, .int x2)] [] σ) : ∀ (f : Nat) (σ : St) (x2 : Int32) (x3 : Int32), m_X5_fittingCount_L4 b1 Q K30 f σ x2 x3 → WW p l e (RM 4) s m args below meth c (MQ below (va_Qi Q (WPost dC dI cA al sh A) A) args s 0 0 A) dC dI cA A 4 0 0 al sh 4 [(0, .ref 48), (1, .ref b1), (2, .int x2), (3, .int x3)] [] σ := by
  intro f
  induction f with
  | zero => intro σ x2 x3 h; exact False.elim h
  | succ f ih => intro σ x2 x3 h; exact w_X5_fittingCount_L4b (Q := Q) C hr hlk hs hb1 hK30 ih h
set_option maxRecDepth 100000 in
set_option maxHeartbeats 4000000 in
theorem w_X5_fittingCount_J30 {p : Program} {l : Launch} {e : Env} {s : State} {m : MethodId} {args : Array Value} {below : List Frame} {meth : Method} {c : Code} {dC : Nat → ClassId} {dI : Nat → Nat → Nat} {cA : Nat → ClassId} {A : Nat → Prop} {al : Nat → Nat} {sh : List Kd} (C : Fx p s m args c cX5_fittingCount 4 yX5_fittingCount.cls dC dI cA A al) (hr : meth.sig.returnType = some .int) (hlk : meth.locks = false) (hs : ShC sh) {b1 : Nat} (hb1 : isRow sh b1) {Q : Int32 → St → Prop} {σ : St} {x2 : Int32} (h : m_X5_fittingCount_J30 b1 Q σ x2) : WW p l e (RM 4) s m args below meth c (MQ below (va_Qi Q (WPost dC dI cA al sh A) A) args s 0 0 A) dC dI cA A 4 0 0 al sh 30 [(2, .int x2)] [] σ := by
  unfold m_X5_fittingCount_J30 at h
  refine ww_iload_n C 0 rfl dX5_fittingCount_30 ?_
  exact ww_iret C hr hlk h dX5_fittingCount_31
set_option maxRecDepth 100000 in
set_option maxHeartbeats 4000000 in
theorem c_X5_fittingCount {l : Launch} {dC : Nat → ClassId} {dI : Nat → Nat → Nat} {cA : Nat → ClassId} {al : Nat → Nat} {sh : List Kd} (hs : ShC sh) {b1 : Nat} (hb1 : isRow sh b1) {σ : St} {Q : Int32 → St → Prop} (h : m_X5_fittingCount b1 σ Q) : ∀ sz, Met l yX5_fittingCount (wd yX5_fittingCount cX5_fittingCount 4 (some .int)) (RM 4) (va_Pc ([.ref 48, .ref b1].map (cv al)) (WPre dC dI cA al sh σ sz)) (va_Qi Q (WPost dC dI cA al sh (AW al sh sz)) (AW al sh sz)) 0 0 (AW al sh sz) := by
  refine ww_met (Qc := fun A => va_Qi Q (WPost dC dI cA al sh A) A) (by decide +kernel) (Nat.le_of_ble_eq_true rfl) (fun p e s m args below meth c A C hr hlk => ?_)
  show WW p l e (RM 4) s m args below meth c (MQ below (va_Qi Q (WPost dC dI cA al sh A) A) args s 0 0 A) dC dI cA A 4 0 0 al sh 0 [(0, .ref 48), (1, .ref b1)] [] σ
  unfold m_X5_fittingCount at h
  refine ww_iconst (v := 0) C dX5_fittingCount_0 (by decide) ?_
  refine ww_istore_n (lv' := [(2, .int 0), (0, .ref 48), (1, .ref b1)]) C dX5_fittingCount_1 rfl (by decide) rfl ?_
  refine ww_iconst (v := 0) C dX5_fittingCount_2 (by decide) ?_
  refine ww_istore_n (lv' := [(3, .int 0), (2, .int 0), (0, .ref 48), (1, .ref b1)]) C dX5_fittingCount_3 rfl (by decide) rfl ?_
  refine ww_sub [2, 3, 1, 0] rfl ?_
  obtain ⟨f, h⟩ := h
  exact w_X5_fittingCount_L4 (Q := Q) C hr hlk hs hb1 (fun σ x2 h => by exact w_X5_fittingCount_J30 (Q := Q) C hr hlk hs hb1 h) f _ _ _ h
set_option maxRecDepth 100000 in
set_option maxHeartbeats 4000000 in
theorem w_X5_leastFitting_L2b {p : Program} {l : Launch} {e : Env} {s : State} {m : MethodId} {args : Array Value} {below : List Frame} {meth : Method} {c : Code} {dC : Nat → ClassId} {dI : Nat → Nat → Nat} {cA : Nat → ClassId} {A : Nat → Prop} {al : Nat → Nat} {sh : List Kd} (C : Fx p s m args c cX5_leastFitting 3 yX5_leastFitting.cls dC dI cA A al) (hr : meth.sig.returnType = some .int) (hlk : meth.locks = false) (hs : ShC sh) {b1 : Nat} (hb1 : isRow sh b1) {Q : Int32 → St → Prop} {K19 : St → Int32 → Prop} (hK19 : ∀ (σ : St) (x2 : Int32), K19 σ x2 → WW p l e (RM 4) s m args below meth c (MQ below (va_Qi Q (WPost dC dI cA al sh A) A) args s 0 0 A) dC dI cA A 3 0 0 al sh 19 [(2, .int x2)] [] σ) {K27 : St → Prop} (hK27 : ∀ (σ : St), K27 σ → WW p l e (RM 4) s m args below meth c (MQ below (va_Qi Q (WPost dC dI cA al sh A) A) args s 0 0 A) dC dI cA A 3 0 0 al sh 27 [] [] σ) {Rc : St → Int32 → Prop} (hRc : ∀ (σ : St) (x2 : Int32), Rc σ x2 → WW p l e (RM 4) s m args below meth c (MQ below (va_Qi Q (WPost dC dI cA al sh A) A) args s 0 0 A) dC dI cA A 3 0 0 al sh 2 [(0, .ref 48), (1, .ref b1), (2, .int x2)] [] σ) {σ : St} {x2 : Int32} (h : m_X5_leastFitting_L2b b1 Q K19 K27 Rc σ x2) : WW p l e (RM 4) s m args below meth c (MQ below (va_Qi Q (WPost dC dI cA al sh A) A) args s 0 0 A) dC dI cA A 3 0 0 al sh 2 [(0, .ref 48), (1, .ref b1), (2, .int x2)] [] σ := by
  unfold m_X5_leastFitting_L2b at h
  refine ww_iload_n C 2 rfl dX5_leastFitting_2 ?_
  refine ww_aload_n C 1 rfl dX5_leastFitting_3 ?_
  refine ww_getIN C (row_o hb1) rfl inG4 0 (by decide) (List.mem_of_getElem? (i := 22) rfl) rfl dX5_leastFitting_4 ?_
  refine ww_icmp_ge (tgt := 27) C dX5_leastFitting_7 (by decide) (fun hc => ?_) (fun hc => ?_)
  · have h := h.1 hc
    refine ww_sub [] rfl ?_
    exact hK27 _ h
  · have h := h.2 hc
    refine ww_aload_n C 0 rfl dX5_leastFitting_10 ?_
    refine ww_aload_n C 1 rfl dX5_leastFitting_11 ?_
    refine ww_iload_n C 2 rfl dX5_leastFitting_12 ?_
    refine ww_vi (n := 2) (As := [.ref b1, .int x2]) (rest := []) C (c_X5_fits hs hb1 h) (shc_48 hs) rfl nq_737 nq_738 nq_739 nq_31 nq_740 (by decide +kernel) rfl rfl ⟨Nat.le_of_ble_eq_true rfl, Nat.le_of_ble_eq_true rfl, Nat.le_of_ble_eq_true rfl, Nat.le_of_ble_eq_true rfl⟩ (Nat.le_of_ble_eq_true rfl) dX5_leastFitting_13 (fun r13 σ13 h => ?_)
    refine ww_if_eq (tgt := 21) C dX5_leastFitting_16 (by decide) (fun hc => ?_) (fun hc => ?_)
    · have h := h.1 hc
      refine ww_iinc (v := (x2 + 1)) (lv' := [(2, .int (x2 + 1)), (0, .ref 48), (1, .ref b1)]) C 2 rfl dX5_leastFitting_21 rfl (by decide) rfl ?_
      refine ww_goto (tgt := 2) C dX5_leastFitting_24 (by decide) ?_
      refine ww_sub [1, 2, 0] rfl ?_
      exact hRc _ _ h
    · have h := h.2 hc
      refine ww_sub [2] rfl ?_
      exact hK19 _ _ h
set_option maxRecDepth 100000 in
set_option maxHeartbeats 4000000 in
theorem w_X5_leastFitting_L2 {p : Program} {l : Launch} {e : Env} {s : State} {m : MethodId} {args : Array Value} {below : List Frame} {meth : Method} {c : Code} {dC : Nat → ClassId} {dI : Nat → Nat → Nat} {cA : Nat → ClassId} {A : Nat → Prop} {al : Nat → Nat} {sh : List Kd} (C : Fx p s m args c cX5_leastFitting 3 yX5_leastFitting.cls dC dI cA A al) (hr : meth.sig.returnType = some .int) (hlk : meth.locks = false) (hs : ShC sh) {b1 : Nat} (hb1 : isRow sh b1) {Q : Int32 → St → Prop} {K19 : St → Int32 → Prop} (hK19 : ∀ (σ : St) (x2 : Int32), K19 σ x2 → WW p l e (RM 4) s m args below meth c (MQ below (va_Qi Q (WPost dC dI cA al sh A) A) args s 0 0 A) dC dI cA A 3 0 0 al sh 19 [(2, .int x2)] [] σ) {K27 : St → Prop} (hK27 : ∀ (σ : St), K27 σ → WW p l e (RM 4) s m args below meth c (MQ below (va_Qi Q (WPost dC dI cA al sh A) A) args s 0 0 A) dC dI cA A 3 0 0 al sh 27 [] [] σ) : ∀ (f : Nat) (σ : St) (x2 : Int32), m_X5_leastFitting_L2 b1 Q K19 K27 f σ x2 → WW p l e (RM 4) s m args below meth c (MQ below (va_Qi Q (WPost dC dI cA al sh A) A) args s 0 0 A) dC dI cA A 3 0 0 al sh 2 [(0, .ref 48), (1, .ref b1), (2, .int x2)] [] σ := by
  intro f
  induction f with
  | zero => intro σ x2 h; exact False.elim h
  | succ f ih => intro σ x2 h; exact w_X5_leastFitting_L2b (Q := Q) C hr hlk hs hb1 hK19 hK27 ih h
set_option maxRecDepth 100000 in
set_option maxHeartbeats 4000000 in
theorem w_X5_leastFitting_J19 {p : Program} {l : Launch} {e : Env} {s : State} {m : MethodId} {args : Array Value} {below : List Frame} {meth : Method} {c : Code} {dC : Nat → ClassId} {dI : Nat → Nat → Nat} {cA : Nat → ClassId} {A : Nat → Prop} {al : Nat → Nat} {sh : List Kd} (C : Fx p s m args c cX5_leastFitting 3 yX5_leastFitting.cls dC dI cA A al) (hr : meth.sig.returnType = some .int) (hlk : meth.locks = false) (hs : ShC sh) {b1 : Nat} (hb1 : isRow sh b1) {Q : Int32 → St → Prop} {σ : St} {x2 : Int32} (h : m_X5_leastFitting_J19 b1 Q σ x2) : WW p l e (RM 4) s m args below meth c (MQ below (va_Qi Q (WPost dC dI cA al sh A) A) args s 0 0 A) dC dI cA A 3 0 0 al sh 19 [(2, .int x2)] [] σ := by
  unfold m_X5_leastFitting_J19 at h
  refine ww_iload_n C 0 rfl dX5_leastFitting_19 ?_
  exact ww_iret C hr hlk h dX5_leastFitting_20
set_option maxRecDepth 100000 in
set_option maxHeartbeats 4000000 in
theorem w_X5_leastFitting_J27 {p : Program} {l : Launch} {e : Env} {s : State} {m : MethodId} {args : Array Value} {below : List Frame} {meth : Method} {c : Code} {dC : Nat → ClassId} {dI : Nat → Nat → Nat} {cA : Nat → ClassId} {A : Nat → Prop} {al : Nat → Nat} {sh : List Kd} (C : Fx p s m args c cX5_leastFitting 3 yX5_leastFitting.cls dC dI cA A al) (hr : meth.sig.returnType = some .int) (hlk : meth.locks = false) (hs : ShC sh) {b1 : Nat} (hb1 : isRow sh b1) {Q : Int32 → St → Prop} {σ : St} (h : m_X5_leastFitting_J27 b1 Q σ) : WW p l e (RM 4) s m args below meth c (MQ below (va_Qi Q (WPost dC dI cA al sh A) A) args s 0 0 A) dC dI cA A 3 0 0 al sh 27 [] [] σ := by
  unfold m_X5_leastFitting_J27 at h
  refine ww_bipush (v := -9) C dX5_leastFitting_27 (by decide) ?_
  exact ww_iret C hr hlk h dX5_leastFitting_29
set_option maxRecDepth 100000 in
set_option maxHeartbeats 4000000 in
theorem c_X5_leastFitting {l : Launch} {dC : Nat → ClassId} {dI : Nat → Nat → Nat} {cA : Nat → ClassId} {al : Nat → Nat} {sh : List Kd} (hs : ShC sh) {b1 : Nat} (hb1 : isRow sh b1) {σ : St} {Q : Int32 → St → Prop} (h : m_X5_leastFitting b1 σ Q) : ∀ sz, Met l yX5_leastFitting (wd yX5_leastFitting cX5_leastFitting 3 (some .int)) (RM 4) (va_Pc ([.ref 48, .ref b1].map (cv al)) (WPre dC dI cA al sh σ sz)) (va_Qi Q (WPost dC dI cA al sh (AW al sh sz)) (AW al sh sz)) 0 0 (AW al sh sz) := by
  refine ww_met (Qc := fun A => va_Qi Q (WPost dC dI cA al sh A) A) (by decide +kernel) (Nat.le_of_ble_eq_true rfl) (fun p e s m args below meth c A C hr hlk => ?_)
  show WW p l e (RM 4) s m args below meth c (MQ below (va_Qi Q (WPost dC dI cA al sh A) A) args s 0 0 A) dC dI cA A 3 0 0 al sh 0 [(0, .ref 48), (1, .ref b1)] [] σ
  unfold m_X5_leastFitting at h
  refine ww_iconst (v := 0) C dX5_leastFitting_0 (by decide) ?_
  refine ww_istore_n (lv' := [(2, .int 0), (0, .ref 48), (1, .ref b1)]) C dX5_leastFitting_1 rfl (by decide) rfl ?_
  refine ww_sub [1, 2, 0] rfl ?_
  obtain ⟨f, h⟩ := h
  exact w_X5_leastFitting_L2 (Q := Q) C hr hlk hs hb1 (fun σ x2 h => by exact w_X5_leastFitting_J19 (Q := Q) C hr hlk hs hb1 h) (fun σ h => by exact w_X5_leastFitting_J27 (Q := Q) C hr hlk hs hb1 h) f _ _ h
set_option maxRecDepth 100000 in
set_option maxHeartbeats 4000000 in
theorem c_X6_put {l : Launch} {dC : Nat → ClassId} {dI : Nat → Nat → Nat} {cA : Nat → ClassId} {al : Nat → Nat} {sh : List Kd} (hs : ShC sh) {σ : St} {a1 : Int32} {Q : Int32 → St → Prop} (h : m_X6_put σ a1 Q) : ∀ sz, Met l yX6_put (wd yX6_put cX6_put 2 (some .boolean)) (RM 0) (va_Pc ([.ref 1, .int a1].map (cv al)) (WPre dC dI cA al sh σ sz)) (va_Qi Q (WPost dC dI cA al sh (AW al sh sz)) (AW al sh sz)) 0 0 (AW al sh sz) := by
  refine ww_met (Qc := fun A => va_Qi Q (WPost dC dI cA al sh A) A) (by decide +kernel) (Nat.le_of_ble_eq_true rfl) (fun p e s m args below meth c A C hr hlk => ?_)
  show WW p l e (RM 0) s m args below meth c (MQ below (va_Qi Q (WPost dC dI cA al sh A) A) args s 0 0 A) dC dI cA A 2 0 0 al sh 0 [(0, .ref 1), (1, .int a1)] [] σ
  unfold m_X6_put at h
  refine ww_aload_n C 0 rfl dX6_put_0 ?_
  refine ww_getI C (shc_1 hs) rfl inG6 0 (by decide) nq_152 rfl dX6_put_1 ?_
  refine ww_bipush (v := 64) C dX6_put_4 (by decide) ?_
  refine ww_icmp_lt (tgt := 11) C dX6_put_6 (by decide) (fun hc => ?_) (fun hc => ?_)
  · have h := h.1 hc
    refine ww_aload_n C 0 rfl dX6_put_11 ?_
    refine ww_getR C (shc_1 hs) rfl inG6 1 (by decide) nq_47 rfl dX6_put_12 ?_
    refine ww_aload_n C 0 rfl dX6_put_15 ?_
    refine ww_getI C (shc_1 hs) rfl inG6 0 (by decide) nq_152 rfl dX6_put_16 ?_
    refine ww_iload_n C 1 rfl dX6_put_19 ?_
    refine ww_iast C (shc_2 hs) h.1 dX6_put_20 h.2 (fun σ20 h => ?_)
    refine ww_aload_n C 0 rfl dX6_put_21 ?_
    refine ww_dup C rfl dX6_put_22 ?_
    refine ww_getI C (shc_1 hs) rfl inG6 0 (by decide) nq_152 rfl dX6_put_23 ?_
    refine ww_iconst (v := 1) C dX6_put_26 (by decide) ?_
    refine ww_iadd C dX6_put_27 ?_
    refine ww_putI C (shc_1 hs) rfl inG6 0 (by decide) nq_152 tyX6 tyX6_ok nmX6 rfl (by decide +kernel) rfl dX6_put_28 h (fun σ28 h => ?_)
    refine ww_iconst (v := 1) C dX6_put_31 (by decide) ?_
    exact ww_zret C hr hlk (by decide) h dX6_put_32
  · have h := h.2 hc
    refine ww_iconst (v := 0) C dX6_put_9 (by decide) ?_
    exact ww_zret C hr hlk (by decide) h dX6_put_10
set_option maxRecDepth 100000 in
set_option maxHeartbeats 4000000 in
theorem c_X6_firstLetter {l : Launch} {dC : Nat → ClassId} {dI : Nat → Nat → Nat} {cA : Nat → ClassId} {al : Nat → Nat} {sh : List Kd} (hs : ShC sh) {σ : St} {a0 : Int32} {Q : Int32 → St → Prop} (h : m_X6_firstLetter σ a0 Q) : ∀ sz, Met l yX6_firstLetter (wd yX6_firstLetter cX6_firstLetter 1 (some .int)) (RM 0) (va_Pc ([.int a0].map (cv al)) (WPre dC dI cA al sh σ sz)) (va_Qi Q (WPost dC dI cA al sh (AW al sh sz)) (AW al sh sz)) 0 0 (AW al sh sz) := by
  refine ww_met (Qc := fun A => va_Qi Q (WPost dC dI cA al sh A) A) (by decide +kernel) (Nat.le_of_ble_eq_true rfl) (fun p e s m args below meth c A C hr hlk => ?_)
  show WW p l e (RM 0) s m args below meth c (MQ below (va_Qi Q (WPost dC dI cA al sh A) A) args s 0 0 A) dC dI cA A 1 0 0 al sh 0 [(0, .int a0)] [] σ
  unfold m_X6_firstLetter at h
  refine ww_iload_n C 0 rfl dX6_firstLetter_0 ?_
  refine ww_bipush (v := 102) C dX6_firstLetter_1 (by decide) ?_
  refine ww_icmp_eq (tgt := 12) C dX6_firstLetter_3 (by decide) (fun hc => ?_) (fun hc => ?_)
  · have h := h.1 hc
    refine ww_bipush (v := 48) C dX6_firstLetter_12 (by decide) ?_
    exact ww_iret C hr hlk h dX6_firstLetter_14
  · have h := h.2 hc
    refine ww_iload_n C 0 rfl dX6_firstLetter_6 ?_
    refine ww_bipush (v := 106) C dX6_firstLetter_7 (by decide) ?_
    refine ww_icmp_ne (tgt := 15) C dX6_firstLetter_9 (by decide) (fun hc => ?_) (fun hc => ?_)
    · have h := h.1 hc
      refine ww_iload_n C 0 rfl dX6_firstLetter_15 ?_
      refine ww_bipush (v := 114) C dX6_firstLetter_16 (by decide) ?_
      refine ww_icmp_eq (tgt := 27) C dX6_firstLetter_18 (by decide) (fun hc => ?_) (fun hc => ?_)
      · have h := h.1 hc
        refine ww_bipush (v := 97) C dX6_firstLetter_27 (by decide) ?_
        refine ww_goto (tgt := 34) C dX6_firstLetter_29 (by decide) ?_
        exact ww_iret C hr hlk h dX6_firstLetter_34
      · have h := h.2 hc
        refine ww_iload_n C 0 rfl dX6_firstLetter_21 ?_
        refine ww_bipush (v := 119) C dX6_firstLetter_22 (by decide) ?_
        refine ww_icmp_ne (tgt := 32) C dX6_firstLetter_24 (by decide) (fun hc => ?_) (fun hc => ?_)
        · have h := h.1 hc
          refine ww_bipush (v := 65) C dX6_firstLetter_32 (by decide) ?_
          exact ww_iret C hr hlk h dX6_firstLetter_34
        · have h := h.2 hc
          refine ww_bipush (v := 97) C dX6_firstLetter_27 (by decide) ?_
          refine ww_goto (tgt := 34) C dX6_firstLetter_29 (by decide) ?_
          exact ww_iret C hr hlk h dX6_firstLetter_34
    · have h := h.2 hc
      refine ww_bipush (v := 48) C dX6_firstLetter_12 (by decide) ?_
      exact ww_iret C hr hlk h dX6_firstLetter_14
set_option maxRecDepth 100000 in
set_option maxHeartbeats 4000000 in
theorem c_X8_isOneOfFour {l : Launch} {dC : Nat → ClassId} {dI : Nat → Nat → Nat} {cA : Nat → ClassId} {al : Nat → Nat} {sh : List Kd} (hs : ShC sh) {σ : St} {a0 : Int32} {Q : Int32 → St → Prop} (h : m_X8_isOneOfFour σ a0 Q) : ∀ sz, Met l yX8_isOneOfFour (wd yX8_isOneOfFour cX8_isOneOfFour 1 (some .boolean)) (RM 0) (va_Pc ([.int a0].map (cv al)) (WPre dC dI cA al sh σ sz)) (va_Qi Q (WPost dC dI cA al sh (AW al sh sz)) (AW al sh sz)) 0 0 (AW al sh sz) := by
  refine ww_met (Qc := fun A => va_Qi Q (WPost dC dI cA al sh A) A) (by decide +kernel) (Nat.le_of_ble_eq_true rfl) (fun p e s m args below meth c A C hr hlk => ?_)
  show WW p l e (RM 0) s m args below meth c (MQ below (va_Qi Q (WPost dC dI cA al sh A) A) args s 0 0 A) dC dI cA A 1 0 0 al sh 0 [(0, .int a0)] [] σ
  unfold m_X8_isOneOfFour at h
  refine ww_iload_n C 0 rfl dX8_isOneOfFour_0 ?_
  refine ww_if_lt (tgt := 13) C dX8_isOneOfFour_1 (by decide) (fun hc => ?_) (fun hc => ?_)
  · have h := h.1 hc
    refine ww_iconst (v := 0) C dX8_isOneOfFour_13 (by decide) ?_
    exact ww_zret C hr hlk (by decide) h dX8_isOneOfFour_14
  · have h := h.2 hc
    refine ww_iload_n C 0 rfl dX8_isOneOfFour_4 ?_
    refine ww_iconst (v := 4) C dX8_isOneOfFour_5 (by decide) ?_
    refine ww_icmp_ge (tgt := 13) C dX8_isOneOfFour_6 (by decide) (fun hc => ?_) (fun hc => ?_)
    · have h := h.1 hc
      refine ww_iconst (v := 0) C dX8_isOneOfFour_13 (by decide) ?_
      exact ww_zret C hr hlk (by decide) h dX8_isOneOfFour_14
    · have h := h.2 hc
      refine ww_iconst (v := 1) C dX8_isOneOfFour_9 (by decide) ?_
      refine ww_goto (tgt := 14) C dX8_isOneOfFour_10 (by decide) ?_
      exact ww_zret C hr hlk (by decide) h dX8_isOneOfFour_14
set_option maxRecDepth 100000 in
set_option maxHeartbeats 4000000 in
theorem c_X6_tellStep {l : Launch} {dC : Nat → ClassId} {dI : Nat → Nat → Nat} {cA : Nat → ClassId} {al : Nat → Nat} {sh : List Kd} (hs : ShC sh) {b2 : Nat} (hb2 : isRow sh b2) {σ : St} {a1 : Int32} {Q : Int32 → St → Prop} (h : m_X6_tellStep b2 σ a1 Q) : ∀ sz, Met l yX6_tellStep (wd yX6_tellStep cX6_tellStep 6 (some .int)) (RM 3) (va_Pc ([.ref 1, .int a1, .ref b2].map (cv al)) (WPre dC dI cA al sh σ sz)) (va_Qi Q (WPost dC dI cA al sh (AW al sh sz)) (AW al sh sz)) 0 0 (AW al sh sz) := by
  refine ww_met (Qc := fun A => va_Qi Q (WPost dC dI cA al sh A) A) (by decide +kernel) (Nat.le_of_ble_eq_true rfl) (fun p e s m args below meth c A C hr hlk => ?_)
  show WW p l e (RM 3) s m args below meth c (MQ below (va_Qi Q (WPost dC dI cA al sh A) A) args s 0 0 A) dC dI cA A 6 0 0 al sh 0 [(0, .ref 1), (1, .int a1), (2, .ref b2)] [] σ
  unfold m_X6_tellStep at h
  refine ww_aload_n C 0 rfl dX6_tellStep_0 ?_
  refine ww_getR C (shc_1 hs) rfl inG6 1 (by decide) nq_47 rfl dX6_tellStep_1 ?_
  refine ww_iload_n C 1 rfl dX6_tellStep_4 ?_
  refine ww_iald C (shc_2 hs) h.1 dX6_tellStep_5 ?_
  have h := h.2
  refine ww_bipush (v := 48) C dX6_tellStep_6 (by decide) ?_
  refine ww_isub C dX6_tellStep_8 ?_
  refine ww_nmI h (fun y9 h => ?_)
  refine ww_istore_n (lv' := [(3, .int y9), (0, .ref 1), (1, .int a1), (2, .ref b2)]) C dX6_tellStep_9 rfl (by decide) rfl ?_
  refine ww_aload_n C 3 rfl dX6_tellStep_10 ?_
  refine ww_getIN C (row_o hb2) rfl inG4 0 (by decide) (List.mem_of_getElem? (i := 23) rfl) rfl dX6_tellStep_11 ?_
  refine ww_bipush (v := 20) C dX6_tellStep_14 (by decide) ?_
  refine ww_icmp_ge (tgt := 30) C dX6_tellStep_16 (by decide) (fun hc => ?_) (fun hc => ?_)
  · have h := h.1 hc
    refine ww_iload_n C 2 rfl dX6_tellStep_30 ?_
    exact ww_iret C hr hlk h dX6_tellStep_31
  · have h := h.2 hc
    refine ww_aload_n C 3 rfl dX6_tellStep_19 ?_
    refine ww_getRN C (row_o hb2) rfl inG4 8 (by decide) (List.mem_of_getElem? (i := 24) rfl) rfl dX6_tellStep_20 ?_
    refine ww_iload_n C 0 rfl dX6_tellStep_23 ?_
    refine ww_vi (n := 1) (As := [.int y9]) (rest := []) C (c_X7_lives (row_w hb2) h) (wld_o (row_w hb2)) rfl nq_183 nq_184 nq_185 nq_60 nq_186 (by decide +kernel) rfl rfl ⟨Nat.le_of_ble_eq_true rfl, Nat.le_of_ble_eq_true rfl, Nat.le_of_ble_eq_true rfl, Nat.le_of_ble_eq_true rfl⟩ (Nat.le_of_ble_eq_true rfl) dX6_tellStep_24 (fun r24 σ24 h => ?_)
    refine ww_if_ne (tgt := 32) C dX6_tellStep_27 (by decide) (fun hc => ?_) (fun hc => ?_)
    · have h := h.1 hc
      refine ww_iload_n C 2 rfl dX6_tellStep_32 ?_
      refine ww_iconst (v := 1) C dX6_tellStep_33 (by decide) ?_
      refine ww_iadd C dX6_tellStep_34 ?_
      refine ww_aload_n C 1 rfl dX6_tellStep_35 ?_
      refine ww_getI C (shc_1 hs) rfl inG6 0 (by decide) nq_152 rfl dX6_tellStep_36 ?_
      refine ww_icmp_lt (tgt := 47) C dX6_tellStep_39 (by decide) (fun hc => ?_) (fun hc => ?_)
      · have h := h.1 hc
        refine ww_aload_n C 1 rfl dX6_tellStep_47 ?_
        refine ww_getR C (shc_1 hs) rfl inG6 1 (by decide) nq_47 rfl dX6_tellStep_48 ?_
        refine ww_iload_n C 2 rfl dX6_tellStep_51 ?_
        refine ww_iconst (v := 1) C dX6_tellStep_52 (by decide) ?_
        refine ww_iadd C dX6_tellStep_53 ?_
        refine ww_iald C (shc_2 hs) h.1 dX6_tellStep_54 ?_
        have h := h.2
        refine ww_nmI h (fun y55 h => ?_)
        refine ww_istore (lv' := [(4, .int y55), (3, .int y9), (0, .ref 1), (1, .int a1), (2, .ref b2)]) C dX6_tellStep_55 (by decide) rfl ?_
        refine ww_aload_n C 4 rfl dX6_tellStep_57 ?_
        refine ww_getRN C (row_o hb2) rfl inG4 8 (by decide) (List.mem_of_getElem? (i := 24) rfl) rfl dX6_tellStep_58 ?_
        refine ww_iload_n C 1 rfl dX6_tellStep_61 ?_
        refine ww_iload C 0 rfl dX6_tellStep_62 ?_
        refine ww_vi (n := 2) (As := [.int y9, .int y55]) (rest := []) C (c_X7_choices (row_w hb2) h) (wld_o (row_w hb2)) rfl nq_187 nq_188 nq_189 nq_60 nq_190 (by decide +kernel) rfl rfl ⟨Nat.le_of_ble_eq_true rfl, Nat.le_of_ble_eq_true rfl, Nat.le_of_ble_eq_true rfl, Nat.le_of_ble_eq_true rfl⟩ (Nat.le_of_ble_eq_true rfl) dX6_tellStep_64 (fun r64 σ64 h => ?_)
        refine ww_if_ne (tgt := 74) C dX6_tellStep_67 (by decide) (fun hc => ?_) (fun hc => ?_)
        · have h := h.1 hc
          refine ww_iload_n C 3 rfl dX6_tellStep_74 ?_
          refine ww_iconst (v := 2) C dX6_tellStep_75 (by decide) ?_
          refine ww_iadd C dX6_tellStep_76 ?_
          refine ww_aload_n C 2 rfl dX6_tellStep_77 ?_
          refine ww_getI C (shc_1 hs) rfl inG6 0 (by decide) nq_152 rfl dX6_tellStep_78 ?_
          refine ww_icmp_lt (tgt := 89) C dX6_tellStep_81 (by decide) (fun hc => ?_) (fun hc => ?_)
          · have h := h.1 hc
            refine ww_aload_n C 2 rfl dX6_tellStep_89 ?_
            refine ww_getR C (shc_1 hs) rfl inG6 1 (by decide) nq_47 rfl dX6_tellStep_90 ?_
            refine ww_iload_n C 3 rfl dX6_tellStep_93 ?_
            refine ww_iconst (v := 2) C dX6_tellStep_94 (by decide) ?_
            refine ww_iadd C dX6_tellStep_95 ?_
            refine ww_iald C (shc_2 hs) h.1 dX6_tellStep_96 ?_
            have h := h.2
            refine ww_iload C 0 rfl dX6_tellStep_97 ?_
            refine ww_si (n := 1) (As := [.int y55]) (rest := [.int (σ64.1 2 (a1 + 2).toNatClampNeg)]) C (c_X6_firstLetter hs h) nq_204 nq_205 nq_15 nq_206 (by decide +kernel) rfl rfl ⟨Nat.le_of_ble_eq_true rfl, Nat.le_of_ble_eq_true rfl, Nat.le_of_ble_eq_true rfl, Nat.le_of_ble_eq_true rfl⟩ (Nat.le_of_ble_eq_true rfl) dX6_tellStep_99 (fun r99 σ99 h => ?_)
            refine ww_isub C dX6_tellStep_102 ?_
            refine ww_nmI h (fun y103 h => ?_)
            refine ww_istore (lv' := [(5, .int y103), (4, .int y55), (3, .int y9), (0, .ref 1), (1, .int a1), (2, .ref b2)]) C dX6_tellStep_103 (by decide) rfl ?_
            refine ww_iload C 0 rfl dX6_tellStep_105 ?_
            refine ww_nsi (n := 1) (As := [.int y103]) (rest := []) C rfl (c_X8_isOneOfFour hs h) nq_207 nq_2 nq_208 (by decide +kernel) rfl rfl ⟨Nat.le_of_ble_eq_true rfl, Nat.le_of_ble_eq_true rfl, Nat.le_of_ble_eq_true rfl, Nat.le_of_ble_eq_true rfl⟩ (Nat.le_of_ble_eq_true rfl) dX6_tellStep_107 (fun r107 σ107 h => ?_)
            refine ww_if_eq (tgt := 128) C dX6_tellStep_110 (by decide) (fun hc => ?_) (fun hc => ?_)
            · have h := h.1 hc
              refine ww_iload_n C 4 rfl dX6_tellStep_128 ?_
              refine ww_iconst (v := 2) C dX6_tellStep_129 (by decide) ?_
              refine ww_iadd C dX6_tellStep_130 ?_
              exact ww_iret C hr hlk h dX6_tellStep_131
            · have h := h.2 hc
              refine ww_aload_n C 5 rfl dX6_tellStep_113 ?_
              refine ww_iload_n C 2 rfl dX6_tellStep_114 ?_
              refine ww_iload C 1 rfl dX6_tellStep_115 ?_
              refine ww_iload C 0 rfl dX6_tellStep_117 ?_
              refine ww_si (n := 3) (As := [.int y9, .int y55, .int y103]) (rest := [.ref b2]) C (c_X4_pack h) nq_209 nq_210 nq_19 nq_211 (by decide +kernel) rfl rfl ⟨Nat.le_of_ble_eq_true rfl, Nat.le_of_ble_eq_true rfl, Nat.le_of_ble_eq_true rfl, Nat.le_of_ble_eq_true rfl⟩ (Nat.le_of_ble_eq_true rfl) dX6_tellStep_119 (fun r119 σ119 h => ?_)
              refine ww_vi (n := 1) (As := [.int r119]) (rest := []) C (c_X4_put hb2 h) (row_o hb2) rfl nq_212 nq_213 nq_214 nq_19 nq_215 (by decide +kernel) rfl rfl ⟨Nat.le_of_ble_eq_true rfl, Nat.le_of_ble_eq_true rfl, Nat.le_of_ble_eq_true rfl, Nat.le_of_ble_eq_true rfl⟩ (Nat.le_of_ble_eq_true rfl) dX6_tellStep_122 (fun r122 σ122 h => ?_)
              refine ww_if_ne (tgt := 132) C dX6_tellStep_125 (by decide) (fun hc => ?_) (fun hc => ?_)
              · have h := h.1 hc
                refine ww_bipush (v := -9) C dX6_tellStep_132 (by decide) ?_
                exact ww_iret C hr hlk h dX6_tellStep_134
              · have h := h.2 hc
                refine ww_iload_n C 4 rfl dX6_tellStep_128 ?_
                refine ww_iconst (v := 2) C dX6_tellStep_129 (by decide) ?_
                refine ww_iadd C dX6_tellStep_130 ?_
                exact ww_iret C hr hlk h dX6_tellStep_131
          · have h := h.2 hc
            refine ww_aload_n C 2 rfl dX6_tellStep_84 ?_
            refine ww_getI C (shc_1 hs) rfl inG6 0 (by decide) nq_152 rfl dX6_tellStep_85 ?_
            exact ww_iret C hr hlk h dX6_tellStep_88
        · have h := h.2 hc
          refine ww_iload_n C 3 rfl dX6_tellStep_70 ?_
          refine ww_iconst (v := 1) C dX6_tellStep_71 (by decide) ?_
          refine ww_iadd C dX6_tellStep_72 ?_
          exact ww_iret C hr hlk h dX6_tellStep_73
      · have h := h.2 hc
        refine ww_aload_n C 1 rfl dX6_tellStep_42 ?_
        refine ww_getI C (shc_1 hs) rfl inG6 0 (by decide) nq_152 rfl dX6_tellStep_43 ?_
        exact ww_iret C hr hlk h dX6_tellStep_46
    · have h := h.2 hc
      refine ww_iload_n C 2 rfl dX6_tellStep_30 ?_
      exact ww_iret C hr hlk h dX6_tellStep_31
set_option maxRecDepth 100000 in
set_option maxHeartbeats 4000000 in
theorem w_X6_tell_L26b {p : Program} {l : Launch} {e : Env} {s : State} {m : MethodId} {args : Array Value} {below : List Frame} {meth : Method} {c : Code} {dC : Nat → ClassId} {dI : Nat → Nat → Nat} {cA : Nat → ClassId} {A : Nat → Prop} {al : Nat → Nat} {sh : List Kd} (C : Fx p s m args c cX6_tell 4 yX6_tell.cls dC dI cA A al) (hr : meth.sig.returnType = some .int) (hlk : meth.locks = false) (hs : ShC sh) {b1 : Nat} (hb1 : isRow sh b1) {Q : Int32 → St → Prop} {K55 : St → Prop} (hK55 : ∀ (σ : St), K55 σ → WW p l e (RM 4) s m args below meth c (MQ below (va_Qi Q (WPost dC dI cA al sh A) A) args s 0 0 A) dC dI cA A 4 0 0 al sh 55 [] [] σ) {Rc : St → Int32 → Prop} (hRc : ∀ (σ : St) (x2 : Int32), Rc σ x2 → WW p l e (RM 4) s m args below meth c (MQ below (va_Qi Q (WPost dC dI cA al sh A) A) args s 0 0 A) dC dI cA A 4 0 0 al sh 26 [(0, .ref 1), (1, .ref b1), (2, .int x2)] [] σ) {σ : St} {x2 : Int32} (h : m_X6_tell_L26b b1 Q K55 Rc σ x2) : WW p l e (RM 4) s m args below meth c (MQ below (va_Qi Q (WPost dC dI cA al sh A) A) args s 0 0 A) dC dI cA A 4 0 0 al sh 26 [(0, .ref 1), (1, .ref b1), (2, .int x2)] [] σ := by
  unfold m_X6_tell_L26b at h
  refine ww_iload_n C 2 rfl dX6_tell_26 ?_
  refine ww_aload_n C 0 rfl dX6_tell_27 ?_
  refine ww_getI C (shc_1 hs) rfl inG6 0 (by decide) nq_152 rfl dX6_tell_28 ?_
  refine ww_icmp_ge (tgt := 55) C dX6_tell_31 (by decide) (fun hc => ?_) (fun hc => ?_)
  · have h := h.1 hc
    refine ww_sub [] rfl ?_
    exact hK55 _ h
  · have h := h.2 hc
    refine ww_aload_n C 0 rfl dX6_tell_34 ?_
    refine ww_iload_n C 2 rfl dX6_tell_35 ?_
    refine ww_aload_n C 1 rfl dX6_tell_36 ?_
    refine ww_vi (n := 2) (As := [.int x2, .ref b1]) (rest := []) C (c_X6_tellStep hs hb1 h) (shc_1 hs) rfl nq_179 nq_180 nq_181 nq_15 nq_182 (by decide +kernel) rfl rfl ⟨Nat.le_of_ble_eq_true rfl, Nat.le_of_ble_eq_true rfl, Nat.le_of_ble_eq_true rfl, Nat.le_of_ble_eq_true rfl⟩ (Nat.le_of_ble_eq_true rfl) dX6_tell_37 (fun r37 σ37 h => ?_)
    refine ww_istore_n (lv' := [(3, .int r37), (0, .ref 1), (1, .ref b1), (2, .int x2)]) C dX6_tell_40 rfl (by decide) rfl ?_
    refine ww_iload_n C 0 rfl dX6_tell_41 ?_
    refine ww_bipush (v := -9) C dX6_tell_42 (by decide) ?_
    refine ww_icmp_eq (tgt := 49) C dX6_tell_44 (by decide) (fun hc => ?_) (fun hc => ?_)
    · have h := h.1 hc
      refine ww_iinc (v := (x2 + 3)) (lv' := [(2, .int (x2 + 3)), (3, .int r37), (0, .ref 1), (1, .ref b1)]) C 3 rfl dX6_tell_49 rfl (by decide) rfl ?_
      refine ww_goto (tgt := 26) C dX6_tell_52 (by decide) ?_
      refine ww_sub [2, 3, 0] rfl ?_
      exact hRc _ _ h
    · have h := h.2 hc
      refine ww_iload_n C 0 rfl dX6_tell_47 ?_
      exact ww_iret C hr hlk h dX6_tell_48
set_option maxRecDepth 100000 in
set_option maxHeartbeats 4000000 in
theorem w_X6_tell_L26 {p : Program} {l : Launch} {e : Env} {s : State} {m : MethodId} {args : Array Value} {below : List Frame} {meth : Method} {c : Code} {dC : Nat → ClassId} {dI : Nat → Nat → Nat} {cA : Nat → ClassId} {A : Nat → Prop} {al : Nat → Nat} {sh : List Kd} (C : Fx p s m args c cX6_tell 4 yX6_tell.cls dC dI cA A al) (hr : meth.sig.returnType = some .int) (hlk : meth.locks = false) (hs : ShC sh) {b1 : Nat} (hb1 : isRow sh b1) {Q : Int32 → St → Prop} {K55 : St → Prop} (hK55 : ∀ (σ : St), K55 σ → WW p l e (RM 4) s m args below meth c (MQ below (va_Qi Q (WPost dC dI cA al sh A) A) args s 0 0 A) dC dI cA A 4 0 0 al sh 55 [] [] σ) : ∀ (f : Nat) (σ : St) (x2 : Int32), m_X6_tell_L26 b1 Q K55 f σ x2 → WW p l e (RM 4) s m args below meth c (MQ below (va_Qi Q (WPost dC dI cA al sh A) A) args s 0 0 A) dC dI cA A 4 0 0 al sh 26 [(0, .ref 1), (1, .ref b1), (2, .int x2)] [] σ := by
  intro f
  induction f with
  | zero => intro σ x2 h; exact False.elim h
  | succ f ih => intro σ x2 h; exact w_X6_tell_L26b (Q := Q) C hr hlk hs hb1 hK55 ih h
set_option maxRecDepth 100000 in
set_option maxHeartbeats 4000000 in
theorem w_X6_tell_J55 {p : Program} {l : Launch} {e : Env} {s : State} {m : MethodId} {args : Array Value} {below : List Frame} {meth : Method} {c : Code} {dC : Nat → ClassId} {dI : Nat → Nat → Nat} {cA : Nat → ClassId} {A : Nat → Prop} {al : Nat → Nat} {sh : List Kd} (C : Fx p s m args c cX6_tell 4 yX6_tell.cls dC dI cA A al) (hr : meth.sig.returnType = some .int) (hlk : meth.locks = false) (hs : ShC sh) {b1 : Nat} (hb1 : isRow sh b1) {Q : Int32 → St → Prop} {σ : St} (h : m_X6_tell_J55 b1 Q σ) : WW p l e (RM 4) s m args below meth c (MQ below (va_Qi Q (WPost dC dI cA al sh A) A) args s 0 0 A) dC dI cA A 4 0 0 al sh 55 [] [] σ := by
  unfold m_X6_tell_J55 at h
  refine ww_bipush (v := -9) C dX6_tell_55 (by decide) ?_
  exact ww_iret C hr hlk h dX6_tell_57
set_option maxRecDepth 100000 in
set_option maxHeartbeats 4000000 in
theorem c_X6_tell {l : Launch} {dC : Nat → ClassId} {dI : Nat → Nat → Nat} {cA : Nat → ClassId} {al : Nat → Nat} {sh : List Kd} (hs : ShC sh) {b1 : Nat} (hb1 : isRow sh b1) {σ : St} {Q : Int32 → St → Prop} (h : m_X6_tell b1 σ Q) : ∀ sz, Met l yX6_tell (wd yX6_tell cX6_tell 4 (some .int)) (RM 4) (va_Pc ([.ref 1, .ref b1].map (cv al)) (WPre dC dI cA al sh σ sz)) (va_Qi Q (WPost dC dI cA al sh (AW al sh sz)) (AW al sh sz)) 0 0 (AW al sh sz) := by
  refine ww_met (Qc := fun A => va_Qi Q (WPost dC dI cA al sh A) A) (by decide +kernel) (Nat.le_of_ble_eq_true rfl) (fun p e s m args below meth c A C hr hlk => ?_)
  show WW p l e (RM 4) s m args below meth c (MQ below (va_Qi Q (WPost dC dI cA al sh A) A) args s 0 0 A) dC dI cA A 4 0 0 al sh 0 [(0, .ref 1), (1, .ref b1)] [] σ
  unfold m_X6_tell at h
  refine ww_aload_n C 1 rfl dX6_tell_0 ?_
  refine ww_vv (n := 0) (As := []) (rest := []) C (c_X4_begin hb1 h) (row_o hb1) rfl nq_178 nq_79 nq_80 nq_19 nq_81 (by decide +kernel) rfl rfl ⟨Nat.le_of_ble_eq_true rfl, Nat.le_of_ble_eq_true rfl, Nat.le_of_ble_eq_true rfl, Nat.le_of_ble_eq_true rfl⟩ (Nat.le_of_ble_eq_true rfl) dX6_tell_1 (fun σ1 h => ?_)
  refine ww_aload_n C 0 rfl dX6_tell_4 ?_
  refine ww_getI C (shc_1 hs) rfl inG6 0 (by decide) nq_152 rfl dX6_tell_5 ?_
  refine ww_if_eq (tgt := 22) C dX6_tell_8 (by decide) (fun hc => ?_) (fun hc => ?_)
  · have h := h.1 hc
    refine ww_iconst (v := 0) C dX6_tell_22 (by decide) ?_
    exact ww_iret C hr hlk h dX6_tell_23
  · have h := h.2 hc
    refine ww_aload_n C 0 rfl dX6_tell_11 ?_
    refine ww_getR C (shc_1 hs) rfl inG6 1 (by decide) nq_47 rfl dX6_tell_12 ?_
    refine ww_iconst (v := 0) C dX6_tell_15 (by decide) ?_
    refine ww_iald C (shc_2 hs) (by unfold vp_in; decide) dX6_tell_16 ?_
    refine ww_bipush (v := 84) C dX6_tell_17 (by decide) ?_
    refine ww_icmp_eq (tgt := 24) C dX6_tell_19 (by decide) (fun hc => ?_) (fun hc => ?_)
    · have h := h.1 hc
      refine ww_iconst (v := 1) C dX6_tell_24 (by decide) ?_
      refine ww_istore_n (lv' := [(2, .int 1), (0, .ref 1), (1, .ref b1)]) C dX6_tell_25 rfl (by decide) rfl ?_
      refine ww_sub [1, 2, 0] rfl ?_
      obtain ⟨f, h⟩ := h
      exact w_X6_tell_L26 (Q := Q) C hr hlk hs hb1 (fun σ h => by exact w_X6_tell_J55 (Q := Q) C hr hlk hs hb1 h) f _ _ h
    · have h := h.2 hc
      refine ww_iconst (v := 0) C dX6_tell_22 (by decide) ?_
      exact ww_iret C hr hlk h dX6_tell_23
