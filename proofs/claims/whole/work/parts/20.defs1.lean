def m_X5_leastFitting_L2b (b1 : Nat) (Q : Int32 → St → Prop) (K19 : St → Int32 → Prop) (K27 : St → Prop) (Rc : St → Int32 → Prop) (σ : St) (x2 : Int32) : Prop :=
  (((σ.1 b1 0) ≤ x2 →
  K27 σ) ∧
 (¬ (σ.1 b1 0) ≤ x2 →
  m_X5_fits b1 σ x2 (fun r13 σ13 =>
  ((r13 = 0 →
  Rc σ13 (x2 + 1)) ∧
 (¬ r13 = 0 →
  K19 σ13 x2)))))
def m_X5_leastFitting_L2 (b1 : Nat) (Q : Int32 → St → Prop) (K19 : St → Int32 → Prop) (K27 : St → Prop) : Nat → St → Int32 → Prop
  | 0 => fun _ _ => False
  | f + 1 => m_X5_leastFitting_L2b b1 Q K19 K27 (m_X5_leastFitting_L2 b1 Q K19 K27 f)
def m_X5_leastFitting_J19 (b1 : Nat) (Q : Int32 → St → Prop) (σ : St) (x2 : Int32) : Prop :=
  Q x2 σ
def m_X5_leastFitting_J27 (b1 : Nat) (Q : Int32 → St → Prop) (σ : St) : Prop :=
  Q (-9) σ
def m_X5_leastFitting (b1 : Nat) (σ : St) (Q : Int32 → St → Prop) : Prop :=
  ∃ f, m_X5_leastFitting_L2 b1 Q (fun σ x2 => m_X5_leastFitting_J19 b1 Q σ x2) (fun σ => m_X5_leastFitting_J27 b1 Q σ) f σ 0
def m_X6_put (σ : St) (a1 : Int32) (Q : Int32 → St → Prop) : Prop :=
  (((σ.1 1 0) < 64 →
  (vp_in (σ.1 1 0) 64 ∧
  sIB σ 2 ((σ.1 1 0).toNatClampNeg) a1 (fun σ20 =>
  sIB σ20 1 0 ((σ20.1 1 0) + 1) (fun σ28 =>
  Q 1 σ28)))) ∧
 (¬ (σ.1 1 0) < 64 →
  Q 0 σ))
def m_X6_firstLetter (σ : St) (a0 : Int32) (Q : Int32 → St → Prop) : Prop :=
  ((a0 = 102 →
  Q 48 σ) ∧
 (¬ a0 = 102 →
  ((¬ a0 = 106 →
  ((a0 = 114 →
  Q 97 σ) ∧
 (¬ a0 = 114 →
  ((¬ a0 = 119 →
  Q 65 σ) ∧
 (a0 = 119 →
  Q 97 σ))))) ∧
 (a0 = 106 →
  Q 48 σ))))
def m_X8_isOneOfFour (σ : St) (a0 : Int32) (Q : Int32 → St → Prop) : Prop :=
  ((a0 < 0 →
  Q 0 σ) ∧
 (¬ a0 < 0 →
  ((4 ≤ a0 →
  Q 0 σ) ∧
 (¬ 4 ≤ a0 →
  Q 1 σ))))
def m_X6_tellStep (b2 : Nat) (σ : St) (a1 : Int32) (Q : Int32 → St → Prop) : Prop :=
  (vp_in a1 64 ∧
  bI ((σ.1 2 a1.toNatClampNeg) - 48) (fun y9 =>
  ((20 ≤ (σ.1 b2 0) →
  Q a1 σ) ∧
 (¬ 20 ≤ (σ.1 b2 0) →
  m_X7_lives (b2 + 7) σ y9 (fun r24 σ24 =>
  ((¬ r24 = 0 →
  (((a1 + 1) < (σ24.1 1 0) →
  (vp_in (a1 + 1) 64 ∧
  bI (σ24.1 2 (a1 + 1).toNatClampNeg) (fun y55 =>
  m_X7_choices (b2 + 7) σ24 y9 y55 (fun r64 σ64 =>
  ((¬ r64 = 0 →
  (((a1 + 2) < (σ64.1 1 0) →
  (vp_in (a1 + 2) 64 ∧
  m_X6_firstLetter σ64 y55 (fun r99 σ99 =>
  bI ((σ64.1 2 (a1 + 2).toNatClampNeg) - r99) (fun y103 =>
  m_X8_isOneOfFour σ99 y103 (fun r107 σ107 =>
  ((r107 = 0 →
  Q (a1 + 2) σ107) ∧
 (¬ r107 = 0 →
  m_X4_pack σ107 y9 y55 y103 (fun r119 σ119 =>
  m_X4_put b2 σ119 r119 (fun r122 σ122 =>
  ((¬ r122 = 0 →
  Q (-9) σ122) ∧
 (r122 = 0 →
  Q (a1 + 2) σ122))))))))))) ∧
 (¬ (a1 + 2) < (σ64.1 1 0) →
  Q (σ64.1 1 0) σ64))) ∧
 (r64 = 0 →
  Q (a1 + 1) σ64)))))) ∧
 (¬ (a1 + 1) < (σ24.1 1 0) →
  Q (σ24.1 1 0) σ24))) ∧
 (r24 = 0 →
  Q a1 σ24)))))))
def m_X6_tell_L26b (b1 : Nat) (Q : Int32 → St → Prop) (K55 : St → Prop) (Rc : St → Int32 → Prop) (σ : St) (x2 : Int32) : Prop :=
  (((σ.1 1 0) ≤ x2 →
  K55 σ) ∧
 (¬ (σ.1 1 0) ≤ x2 →
  m_X6_tellStep b1 σ x2 (fun r37 σ37 =>
  ((r37 = (-9) →
  Rc σ37 (x2 + 3)) ∧
 (¬ r37 = (-9) →
  Q r37 σ37)))))
def m_X6_tell_L26 (b1 : Nat) (Q : Int32 → St → Prop) (K55 : St → Prop) : Nat → St → Int32 → Prop
  | 0 => fun _ _ => False
  | f + 1 => m_X6_tell_L26b b1 Q K55 (m_X6_tell_L26 b1 Q K55 f)
def m_X6_tell_J55 (b1 : Nat) (Q : Int32 → St → Prop) (σ : St) : Prop :=
  Q (-9) σ
def m_X6_tell (b1 : Nat) (σ : St) (Q : Int32 → St → Prop) : Prop :=
  m_X4_begin b1 σ  (fun σ1 =>
  (((σ1.1 1 0) = 0 →
  Q 0 σ1) ∧
 (¬ (σ1.1 1 0) = 0 →
  (((σ1.1 2 ((0 : Int32).toNatClampNeg)) = 84 →
  ∃ f, m_X6_tell_L26 b1 Q (fun σ => m_X6_tell_J55 b1 Q σ) f σ1 1) ∧
 (¬ (σ1.1 2 ((0 : Int32).toNatClampNeg)) = 84 →
  Q 0 σ1)))))
def m_X8_write (σ : St) (a1 : Int32) (Q : Int32 → St → Prop) : Prop :=
  ((a1 < 0 →
  Q (-2) σ) ∧
 (¬ a1 < 0 →
  ((a1 ≤ 255 →
  m_X6_put σ a1 (fun r19 σ19 =>
  ((r19 = 0 →
  Q (-4) σ19) ∧
 (¬ r19 = 0 →
  Q (σ19.1 1 0) σ19)))) ∧
 (¬ a1 ≤ 255 →
  Q (-2) σ))))
def m_X8_wipe (σ : St) (Q : Int32 → St → Prop) : Prop :=
  bI (σ.1 1 0) (fun y7 =>
  sIB σ 1 0 0 (fun σ13 =>
  Q y7 σ13))
def m_X8_fault (σ : St) (Q : Int32 → St → Prop) : Prop :=
  m_X6_tell 13 σ  (fun r8 σ8 =>
  Q r8 σ8)
def m_X8_trace_L40b (Q : Int32 → St → Prop) (K58 : St → Prop) (Rc : St → Int32 → Prop) (σ : St) (x1 : Int32) : Prop :=
  ((2 ≤ x1 →
  K58 σ) ∧
 (¬ 2 ≤ x1 →
  (vp_in x1 2 ∧
  sIB σ 44 (x1.toNatClampNeg) (vp_nar .boolean 0) (fun σ51 =>
  Rc σ51 (x1 + 1)))))
def m_X8_trace_L40 (Q : Int32 → St → Prop) (K58 : St → Prop) : Nat → St → Int32 → Prop
  | 0 => fun _ _ => False
  | f + 1 => m_X8_trace_L40b Q K58 (m_X8_trace_L40 Q K58 f)
def m_X8_trace_J58 (Q : Int32 → St → Prop) (σ : St) : Prop :=
  Q (σ.1 3 0) σ
def m_X8_trace (σ : St) (Q : Int32 → St → Prop) : Prop :=
  m_X6_tell 13 σ  (fun r8 σ8 =>
  ((r8 = (-9) →
  m_X4_copy 3 13 σ8  (fun σ27 =>
  sIB σ27 45 0 0 (fun σ35 =>
  ∃ f, m_X8_trace_L40 Q (fun σ => m_X8_trace_J58 Q σ) f σ35 0))) ∧
 (¬ r8 = (-9) →
  Q (-3) σ8)))
def m_X8_step (σ : St) (a1 : Int32) (a2 : Int32) (Q : Int32 → St → Prop) : Prop :=
  m_X4_has 3 σ a1 (fun r5 σ5 =>
  ((¬ r5 = 0 →
  ((a2 = 0 →
  m_X4_threadAt 3 σ5 a1 (fun r53 σ53 =>
  Q r53 σ53)) ∧
 (a2 = 1 →
  m_X4_signAt 3 σ5 a1 (fun r62 σ62 =>
  Q r62 σ62)) ∧
 (a2 = 2 →
  m_X4_aboutAt 3 σ5 a1 (fun r71 σ71 =>
  Q r71 σ71)) ∧
 (a2 = 3 →
  (vp_in a1 20 ∧
  Q (σ5.1 5 a1.toNatClampNeg) σ5)) ∧
 (a2 = 4 →
  (vp_in a1 20 ∧
  Q (σ5.1 6 a1.toNatClampNeg) σ5)) ∧
 (¬ a2 = 0 ∧ ¬ a2 = 1 ∧ ¬ a2 = 2 ∧ ¬ a2 = 3 ∧ ¬ a2 = 4 →
  Q (-2) σ5))) ∧
 (r5 = 0 →
  Q (-1) σ5)))
def m_X8_drop (σ : St) (a1 : Int32) (Q : Int32 → St → Prop) : Prop :=
  m_X4_has 3 σ a1 (fun r5 σ5 =>
  ((¬ r5 = 0 →
  (vp_in a1 20 ∧
  bI (σ5.1 4 a1.toNatClampNeg) (fun y22 =>
  m_X4_takeOut 3 σ5 a1 (fun r28 σ28 =>
  ((¬ r28 = 0 →
  m_X0_push σ28 a1 y22 (fun σ43 =>
  Q (σ43.1 3 0) σ43)) ∧
 (r28 = 0 →
  Q (-3) σ28)))))) ∧
 (r5 = 0 →
  Q (-1) σ5)))
def m_X8_swap (σ : St) (a1 : Int32) (Q : Int32 → St → Prop) : Prop :=
  m_X4_hasPair 3 σ a1 (fun r5 σ5 =>
  ((¬ r5 = 0 →
  m_X4_threadAt 3 σ5 a1 (fun r18 σ18 =>
  m_X4_changePlaces 3 σ18 a1 (fun r27 σ27 =>
  ((¬ r27 = 0 →
  m_X0_push σ27 a1 (-1) (fun σ42 =>
  Q r18 σ42)) ∧
 (r27 = 0 →
  Q (-3) σ27))))) ∧
 (r5 = 0 →
  Q (-1) σ5)))
def m_X8_undo (σ : St) (Q : Int32 → St → Prop) : Prop :=
  ((¬ (σ.1 45 0) = 0 →
  m_X0_takeBack 3 σ  (fun σ21 =>
  Q (σ21.1 45 0) σ21)) ∧
 ((σ.1 45 0) = 0 →
  Q (-3) σ))
def m_X8_cell (σ : St) (a1 : Int32) (a2 : Int32) (a3 : Int32) (Q : Int32 → St → Prop) : Prop :=
  m_X8_isOneOfFour σ a1 (fun r1 σ1 =>
  ((¬ r1 = 0 →
  ((a2 < 0 →
  Q (-2) σ1) ∧
 (¬ a2 < 0 →
  ((a2 ≤ (σ1.1 3 0) →
  m_X1_watch 3 σ1 a1 a2 (-9) 15 (fun r37 σ37 =>
  ((a3 = 0 →
  m_X1_stateOf σ37 r37 (fun r78 σ78 =>
  Q r78 σ78)) ∧
 (a3 = 1 →
  m_X1_candidatesOf σ37 r37 (fun r84 σ84 =>
  Q r84 σ84)) ∧
 (a3 = 2 →
  m_X1_ownerOf σ37 r37 (fun r90 σ90 =>
  Q r90 σ90)) ∧
 (a3 = 3 →
  m_X1_flaggedBy 3 σ37 a1 a2 (fun r100 σ100 =>
  Q r100 σ100)) ∧
 (a3 = 4 →
  m_X1_touches 3 σ37 a1 a2 (fun r110 σ110 =>
  Q r110 σ110)) ∧
 (¬ a3 = 0 ∧ ¬ a3 = 1 ∧ ¬ a3 = 2 ∧ ¬ a3 = 3 ∧ ¬ a3 = 4 →
  Q (-2) σ37)))) ∧
 (¬ a2 ≤ (σ1.1 3 0) →
  Q (-2) σ1))))) ∧
 (r1 = 0 →
  Q (-1) σ1)))
def m_X8_ahead (σ : St) (a1 : Int32) (a2 : Int32) (Q : Int32 → St → Prop) : Prop :=
  m_X4_has 3 σ a1 (fun r5 σ5 =>
  ((r5 = 0 →
  Q (-1) σ5) ∧
 (¬ r5 = 0 →
  m_X4_has 3 σ5 a2 (fun r16 σ16 =>
  ((¬ r16 = 0 →
  m_X4_isAhead 3 σ16 a1 a2 (fun r30 σ30 =>
  ((r30 = 0 →
  Q 0 σ30) ∧
 (¬ r30 = 0 →
  Q 1 σ30)))) ∧
 (r16 = 0 →
  Q (-1) σ16))))))
def m_X8_meetings (σ : St) (a1 : Int32) (a2 : Int32) (Q : Int32 → St → Prop) : Prop :=
  m_X8_isOneOfFour σ a1 (fun r1 σ1 =>
  ((¬ r1 = 0 →
  ((a2 = 0 →
  m_X1_meetingCount 3 σ1 a1 (fun r41 σ41 =>
  Q r41 σ41)) ∧
 (a2 = 1 →
  m_X1_leastMeeting 3 σ1 a1 (fun r50 σ50 =>
  Q r50 σ50)) ∧
 (¬ a2 = 0 ∧ ¬ a2 = 1 →
  Q (-2) σ1))) ∧
 (r1 = 0 →
  Q (-1) σ1)))
def m_X8_edges (σ : St) (a1 : Int32) (Q : Int32 → St → Prop) : Prop :=
  ((a1 < 0 →
  Q (-2) σ) ∧
 (¬ a1 < 0 →
  ((a1 ≤ 16 →
  m_X3_collect 3 σ  (fun σ21 =>
  ((¬ a1 = 0 →
  m_X3_between σ21 ((a1 - 1) / 4) ((a1 - 1) - (a1 - 1) / 4 * 4) (fun r52 σ52 =>
  Q r52 σ52)) ∧
 (a1 = 0 →
  Q (σ21.1 52 0) σ21)))) ∧
 (¬ a1 ≤ 16 →
  Q (-2) σ))))
def m_X8_rings (σ : St) (a1 : Int32) (a2 : Int32) (Q : Int32 → St → Prop) : Prop :=
  ((a1 < 2 →
  Q (-2) σ) ∧
 (¬ a1 < 2 →
  ((4 < a1 →
  Q (-2) σ) ∧
 (¬ 4 < a1 →
  ((a2 < 0 →
  Q (-2) σ) ∧
 (¬ a2 < 0 →
  ((a2 < 4 →
  m_X3_find 3 σ  (fun σ30 =>
  (vp_in ((a1 * 4) + a2) 20 ∧
  Q (σ30.1 56 ((a1 * 4) + a2).toNatClampNeg) σ30))) ∧
 (¬ a2 < 4 →
  Q (-2) σ))))))))
def m_X8_first (σ : St) (Q : Int32 → St → Prop) : Prop :=
  m_X3_find 3 σ  (fun σ8 =>
  Q (σ8.1 52 5) σ8)
def m_X8_areFeasible (σ : St) (a1 : Int32) (Q : Int32 → St → Prop) : Prop :=
  m_X3_find 13 σ  (fun σ8 =>
  m_X3_feasible σ8  (fun r15 σ15 =>
  ((r15 < a1 →
  Q 0 σ15) ∧
 (¬ r15 < a1 →
  Q 1 σ15))))
def m_X8_isCellSo_J67 (a1 : Int32) (a2 : Int32) (a3 : Int32) (Q : Int32 → St → Prop) (σ : St) (t0 : Int32) : Prop :=
  ((¬ t0 = a3 →
  Q 0 σ) ∧
 (t0 = a3 →
  Q 1 σ))
def m_X8_isCellSo (σ : St) (a1 : Int32) (a2 : Int32) (a3 : Int32) (Q : Int32 → St → Prop) : Prop :=
  bI (a1 / 10) (fun y4 =>
  ((¬ (a1 - a1 / 10 * 10) = 0 →
  Q 0 σ) ∧
 ((a1 - a1 / 10 * 10) = 0 →
  ((y4 < 4 →
  m_X1_watch 13 σ y4 (σ.1 13 0) (-9) 15 (fun r38 σ38 =>
  ((a2 = 0 →
  m_X1_stateOf σ38 r38 (fun r64 σ64 =>
  m_X8_isCellSo_J67 a1 a2 a3 Q σ64 r64)) ∧
 (¬ a2 = 0 →
  ((¬ r38 = 48 →
  m_X8_isCellSo_J67 a1 a2 a3 Q σ38 0) ∧
 (r38 = 48 →
  m_X8_isCellSo_J67 a1 a2 a3 Q σ38 1)))))) ∧
 (¬ y4 < 4 →
  Q 0 σ)))))
def m_X8_canBe (σ : St) (a1 : Int32) (Q : Int32 → St → Prop) : Prop :=
  bI ((a1 / 10) - (a1 / 10) / 100 * 100) (fun y7 =>
  bI (a1 - a1 / 10 * 10) (fun y12 =>
  (((a1 / 1000) = 1 →
  ((¬ y12 = 0 →
  Q 0 σ) ∧
 (y12 = 0 →
  m_X4_takeOut 13 σ y7 (fun r65 σ65 =>
  ((r65 = 0 →
  Q 0 σ65) ∧
 (¬ r65 = 0 →
  Q 1 σ65)))))) ∧
 ((a1 / 1000) = 2 →
  ((¬ y12 = 0 →
  Q 0 σ) ∧
 (y12 = 0 →
  m_X4_changePlaces 13 σ y7 (fun r86 σ86 =>
  ((r86 = 0 →
  Q 0 σ86) ∧
 (¬ r86 = 0 →
  Q 1 σ86)))))) ∧
 ((a1 / 1000) = 3 →
  m_X8_isCellSo σ y7 0 y12 (fun r102 σ102 =>
  (narrow .boolean (.int r102) = .int r102 ∧ Q r102 σ102))) ∧
 ((a1 / 1000) = 4 →
  m_X8_isCellSo σ y7 1 y12 (fun r110 σ110 =>
  (narrow .boolean (.int r110) = .int r110 ∧ Q r110 σ110))) ∧
 ((a1 / 1000) = 5 →
  ((¬ y7 = 0 →
  Q 0 σ) ∧
 (y7 = 0 →
  m_X8_areFeasible σ y12 (fun r120 σ120 =>
  ((r120 = 0 →
  Q 0 σ120) ∧
 (¬ r120 = 0 →
  Q 1 σ120)))))) ∧
 ((a1 / 1000) = 6 →
  m_X4_has 13 σ y7 (fun r137 σ137 =>
  ((r137 = 0 →
  Q 0 σ137) ∧
 (¬ r137 = 0 →
  ((4 ≤ y12 →
  Q 0 σ137) ∧
 (¬ 4 ≤ y12 →
  m_X4_heldAt 13 σ137 y7 (fun r153 σ153 =>
  ((¬ ((r153 >>> (y12 &&& 31)) &&& 1) = 1 →
  Q 0 σ153) ∧
 (((r153 >>> (y12 &&& 31)) &&& 1) = 1 →
  Q 1 σ153))))))))) ∧
 (¬ (a1 / 1000) = 1 ∧ ¬ (a1 / 1000) = 2 ∧ ¬ (a1 / 1000) = 3 ∧ ¬ (a1 / 1000) = 4 ∧ ¬ (a1 / 1000) = 5 ∧ ¬ (a1 / 1000) = 6 →
  Q 0 σ))))
def m_X8_judge_L43b (a1 : Int32) (a2 : Int64) (Q : Int32 → St → Prop) (K79 : St → Int32 → Prop) (K88 : St → Prop) (Rc : St → Int32 → Prop) (σ : St) (x4 : Int32) : Prop :=
  ((a1 ≤ x4 →
  K88 σ) ∧
 (¬ a1 ≤ x4 →
  (vp_in ((a1 - 1) - x4) 5 ∧
  (¬ (fDO ((a1 - 1) - x4).toNatClampNeg) = 0 ∧
  (vp_in 1 5 ∧
  (¬ (fDO (1 : Int32).toNatClampNeg) = 0 ∧
  bI (((a2 / (fDO ((a1 - 1) - x4).toNatClampNeg)) - (a2 / (fDO ((a1 - 1) - x4).toNatClampNeg)) / (fDO (1 : Int32).toNatClampNeg) * (fDO (1 : Int32).toNatClampNeg)).toInt32) (fun y68 =>
  m_X8_canBe σ y68 (fun r73 σ73 =>
  ((¬ r73 = 0 →
  Rc σ73 (x4 + 1)) ∧
 (r73 = 0 →
  K79 σ73 x4))))))))))
def m_X8_judge_L43 (a1 : Int32) (a2 : Int64) (Q : Int32 → St → Prop) (K79 : St → Int32 → Prop) (K88 : St → Prop) : Nat → St → Int32 → Prop
  | 0 => fun _ _ => False
  | f + 1 => m_X8_judge_L43b a1 a2 Q K79 K88 (m_X8_judge_L43 a1 a2 Q K79 K88 f)
def m_X8_judge_J79 (a1 : Int32) (a2 : Int64) (Q : Int32 → St → Prop) (σ : St) (x4 : Int32) : Prop :=
  Q x4 σ
def m_X8_judge_J88 (a1 : Int32) (a2 : Int64) (Q : Int32 → St → Prop) (σ : St) : Prop :=
  Q (-9) σ
def m_X8_judge (σ : St) (a1 : Int32) (a2 : Int64) (Q : Int32 → St → Prop) : Prop :=
  ((a1 < 1 →
  Q (-2) σ) ∧
 (¬ a1 < 1 →
  ((4 < a1 →
  Q (-2) σ) ∧
 (¬ 4 < a1 →
  (((lg_cmp a2 0) < 0 →
  Q (-2) σ) ∧
 (¬ (lg_cmp a2 0) < 0 →
  (vp_in a1 5 ∧
  (((lg_cmp a2 (fDO a1.toNatClampNeg)) < 0 →
  m_X4_copy 13 3 σ  (fun σ37 =>
  ∃ f, m_X8_judge_L43 a1 a2 Q (fun σ x4 => m_X8_judge_J79 a1 a2 Q σ x4) (fun σ => m_X8_judge_J88 a1 a2 Q σ) f σ37 0)) ∧
 (¬ (lg_cmp a2 (fDO a1.toNatClampNeg)) < 0 →
  Q (-2) σ)))))))))
def m_X8_see_J46 (a1 : Int32) (a2 : Int32) (a3 : Int32) (Q : Int32 → St → Prop) (σ : St) (t1 : Int32) (t2 : Int32) (t3 : Int32) : Prop :=
  m_X5_put σ t1 t2 t3 (fun r46 σ46 =>
  ((r46 = 0 →
  Q (-4) σ46) ∧
 (¬ r46 = 0 →
  Q (σ46.1 48 0) σ46)))
def m_X8_see (σ : St) (a1 : Int32) (a2 : Int32) (a3 : Int32) (Q : Int32 → St → Prop) : Prop :=
  m_X8_isOneOfFour σ a1 (fun r1 σ1 =>
  ((¬ r1 = 0 →
  ((a2 < 0 →
  Q (-2) σ1) ∧
 (¬ a2 < 0 →
  ((3 < a2 →
  Q (-2) σ1) ∧
 (¬ 3 < a2 →
  ((a3 < 0 →
  Q (-2) σ1) ∧
 (¬ a3 < 0 →
  ((a3 ≤ 1 →
  ((¬ a3 = 1 →
  m_X8_see_J46 a1 a2 a3 Q σ1 a1 a2 0) ∧
 (a3 = 1 →
  m_X8_see_J46 a1 a2 a3 Q σ1 a1 a2 1))) ∧
 (¬ a3 ≤ 1 →
  Q (-2) σ1))))))))) ∧
 (r1 = 0 →
  Q (-1) σ1)))
def m_X8_unsee (σ : St) (Q : Int32 → St → Prop) : Prop :=
  bI (σ.1 48 0) (fun y7 =>
  sIB σ 48 0 0 (fun σ13 =>
  Q y7 σ13))
def m_X8_which (σ : St) (a1 : Int32) (Q : Int32 → St → Prop) : Prop :=
  ((a1 = 0 →
  m_X5_fittingCount 3 σ  (fun r36 σ36 =>
  Q r36 σ36)) ∧
 (a1 = 1 →
  m_X5_leastFitting 3 σ  (fun r48 σ48 =>
  Q r48 σ48)) ∧
 (¬ a1 = 0 ∧ ¬ a1 = 1 →
  Q (-2) σ))
def m_X8_fraction_L9b (a0 : Int64) (a2 : Int64) (a4 : Int32) (Q : Int32 → St → Prop) (K44 : St → Int64 → Prop) (Rc : St → Int64 → Int64 → Int32 → Prop) (σ : St) (x5 : Int64) (x7 : Int64) (x9 : Int32) : Prop :=
  ((100 ≤ x9 →
  K44 σ x5) ∧
 (¬ 100 ≤ x9 →
  (((lg_cmp x7 0) = 0 →
  K44 σ x5) ∧
 (¬ (lg_cmp x7 0) = 0 →
  (¬ x7 = 0 ∧
  bL (x5 - x5 / x7 * x7) (fun y28 =>
  Rc σ x7 y28 (x9 + 1)))))))
def m_X8_fraction_L9 (a0 : Int64) (a2 : Int64) (a4 : Int32) (Q : Int32 → St → Prop) (K44 : St → Int64 → Prop) : Nat → St → Int64 → Int64 → Int32 → Prop
  | 0 => fun _ _ _ _ => False
  | f + 1 => m_X8_fraction_L9b a0 a2 a4 Q K44 (m_X8_fraction_L9 a0 a2 a4 Q K44 f)
def m_X8_fraction_J44 (a0 : Int64) (a2 : Int64) (a4 : Int32) (Q : Int32 → St → Prop) (σ : St) (x5 : Int64) : Prop :=
  ((¬ (lg_cmp x5 0) = 0 →
  ((a4 = 0 →
  (¬ x5 = 0 ∧
  Q ((a2 / x5).toInt32) σ)) ∧
 (¬ a4 = 0 →
  (¬ x5 = 0 ∧
  Q ((a0 / x5).toInt32) σ)))) ∧
 ((lg_cmp x5 0) = 0 →
  ((a4 = 0 →
  Q 1 σ) ∧
 (¬ a4 = 0 →
  Q 0 σ))))
def m_X8_fraction (σ : St) (a0 : Int64) (a2 : Int64) (a4 : Int32) (Q : Int32 → St → Prop) : Prop :=
  ∃ f, m_X8_fraction_L9 a0 a2 a4 Q (fun σ x5 => m_X8_fraction_J44 a0 a2 a4 Q σ x5) f σ a2 a0 0
def m_X8_share_L19b (a1 : Int32) (a2 : Int32) (Q : Int32 → St → Prop) (x3 : Int32) (K81 : St → Int32 → Prop) (Rc : St → Int32 → Int32 → Prop) (σ : St) (x4 : Int32) (x5 : Int32) : Prop :=
  ((15 < x5 →
  K81 σ x4) ∧
 (¬ 15 < x5 →
  ((¬ (x5 &&& x3) = 0 →
  Rc σ x4 (x5 + 1)) ∧
 ((x5 &&& x3) = 0 →
  m_X1_flaggedCount 3 σ x5 (fun r39 σ39 =>
  m_X1_flaggedCount 3 σ39 (x5 ||| x3) (fun r50 σ50 =>
  bI (r39 - r50) (fun y54 =>
  m_J6_bitCount_0f7a4 σ50 x5 (fun r63 σ63 =>
  (vp_in (r63 &&& 3) 4 ∧
  bI (x4 + ((fOR (r63 &&& 3).toNatClampNeg) * y54)) (fun y73 =>
  Rc σ63 y73 (x5 + 1)))))))))))
def m_X8_share_L19 (a1 : Int32) (a2 : Int32) (Q : Int32 → St → Prop) (x3 : Int32) (K81 : St → Int32 → Prop) : Nat → St → Int32 → Int32 → Prop
  | 0 => fun _ _ _ => False
  | f + 1 => m_X8_share_L19b a1 a2 Q x3 K81 (m_X8_share_L19 a1 a2 Q x3 K81 f)
def m_X8_share_J81 (a1 : Int32) (a2 : Int32) (Q : Int32 → St → Prop) (σ : St) (x4 : Int32) : Prop :=
  m_X8_fraction σ (x4.toInt64) 24 a2 (fun r88 σ88 =>
  Q r88 σ88)
def m_X8_share (σ : St) (a1 : Int32) (a2 : Int32) (Q : Int32 → St → Prop) : Prop :=
  m_X8_isOneOfFour σ a1 (fun r1 σ1 =>
  ((¬ r1 = 0 →
  bI ((1 : Int32) <<< (a1 &&& 31)) (fun y12 =>
  ∃ f, m_X8_share_L19 a1 a2 Q y12 (fun σ x4 => m_X8_share_J81 a1 a2 Q σ x4) f σ1 0 0)) ∧
 (r1 = 0 →
  Q (-1) σ1)))
def m_X8_lost (σ : St) (a1 : Int32) (a2 : Int32) (a3 : Int32) (Q : Int32 → St → Prop) : Prop :=
  m_X8_isOneOfFour σ a1 (fun r1 σ1 =>
  ((¬ r1 = 0 →
  ((a2 < 0 →
  Q (-2) σ1) ∧
 (¬ a2 < 0 →
  ((a2 ≤ 10 →
  m_X1_touches 3 σ1 a1 (σ1.1 3 0) (fun r34 σ34 =>
  ((r34 ≤ 9 →
  m_X2_spread 3 σ34 a1 a2 (fun σ55 =>
  m_X2_ofFlagged σ55  (fun r62 σ62 =>
  m_X8_fraction σ62 r62 (σ62.2 58 0) a3 (fun r73 σ73 =>
  Q r73 σ73)))) ∧
 (¬ r34 ≤ 9 →
  Q (-4) σ34)))) ∧
 (¬ a2 ≤ 10 →
  Q (-2) σ1))))) ∧
 (r1 = 0 →
  Q (-1) σ1)))
def m_X8_seed (σ : St) (a1 : Int64) (Q : Int64 → St → Prop) : Prop :=
  bL (σ.2 0 9) (fun y4 =>
  sLB σ 0 9 a1 (fun σ7 =>
  Q y4 σ7))
def m_X8_faultsOfTrial (σ : St) (Q : Int32 → St → Prop) : Prop :=
  m_X3_find 13 σ  (fun σ8 =>
  m_X1_flaggedCount 13 σ8 15 (fun r17 σ17 =>
  m_X3_feasible σ17  (fun r24 σ24 =>
  Q (r17 + r24) σ24)))
def m_X8_drawn_L35b (a1 : Int32) (Q : Int32 → St → Prop) (K107 : St → Int32 → Prop) (Rc : St → Int32 → Int32 → Int32 → Prop) (σ : St) (x2 : Int32) (x3 : Int32) (x4 : Int32) : Prop :=
  ((a1 ≤ x4 →
  K107 σ x3) ∧
 (¬ a1 ≤ x4 →
  sLB σ 0 9 (((σ.2 0 9) * 6364136223846793005) + 1442695040888963407) (fun σ54 =>
  (¬ ((if 1 < (σ54.1 13 0) then (σ54.1 13 0) else 1).toInt64) = 0 ∧
  bI (((((σ54.2 0 9).toUInt64 >>> ((33 : Int32).toInt64.toUInt64 &&& Int64.toUInt64 63)).toInt64) - (((σ54.2 0 9).toUInt64 >>> ((33 : Int32).toInt64.toUInt64 &&& Int64.toUInt64 63)).toInt64) / ((if 1 < (σ54.1 13 0) then (σ54.1 13 0) else 1).toInt64) * ((if 1 < (σ54.1 13 0) then (σ54.1 13 0) else 1).toInt64)).toInt32) (fun y78 =>
  m_X4_takeOut 13 σ54 y78 (fun r86 σ86 =>
  ((r86 = 0 →
  bI (x3 + x2) (fun y100 =>
  Rc σ86 x2 y100 (x4 + 1))) ∧
 (¬ r86 = 0 →
  m_X8_faultsOfTrial σ86  (fun r93 σ93 =>
  bI (x3 + r93) (fun y100 =>
  Rc σ93 r93 y100 (x4 + 1)))))))))))
def m_X8_drawn_L35 (a1 : Int32) (Q : Int32 → St → Prop) (K107 : St → Int32 → Prop) : Nat → St → Int32 → Int32 → Int32 → Prop
  | 0 => fun _ _ _ _ => False
  | f + 1 => m_X8_drawn_L35b a1 Q K107 (m_X8_drawn_L35 a1 Q K107 f)
def m_X8_drawn_J107 (a1 : Int32) (Q : Int32 → St → Prop) (σ : St) (x3 : Int32) : Prop :=
  Q x3 σ
def m_X8_drawn (σ : St) (a1 : Int32) (Q : Int32 → St → Prop) : Prop :=
  ((a1 < 1 →
  Q (-2) σ) ∧
 (¬ a1 < 1 →
  ((a1 ≤ 20 →
  m_X4_copy 13 3 σ  (fun σ22 =>
  m_X8_faultsOfTrial σ22  (fun r26 σ26 =>
  ∃ f, m_X8_drawn_L35 a1 Q (fun σ x3 => m_X8_drawn_J107 a1 Q σ x3) f σ26 r26 0 0))) ∧
 (¬ a1 ≤ 20 →
  Q (-2) σ))))
def m_X8_keep (σ : St) (a1 : Int32) (Q : Int32 → St → Prop) : Prop :=
  ((a1 < 0 →
  Q (-1) σ) ∧
 (¬ a1 < 0 →
  ((a1 < 2 →
  ((a1 = 0 ∨ a1 = 1) ∧
 (a1 = 0 →
  m_X4_copy 24 3 σ  (fun σ21 =>
  (vp_in a1 2 ∧
  sIB σ21 44 (a1.toNatClampNeg) (vp_nar .boolean 1) (fun σ30 =>
  Q (σ30.1 3 0) σ30)))) ∧
 (a1 = 1 →
  m_X4_copy 34 3 σ  (fun σ21 =>
  (vp_in a1 2 ∧
  sIB σ21 44 (a1.toNatClampNeg) (vp_nar .boolean 1) (fun σ30 =>
  Q (σ30.1 3 0) σ30)))))) ∧
 (¬ a1 < 2 →
  Q (-1) σ))))
def m_X8_again (σ : St) (a1 : Int32) (Q : Int32 → St → Prop) : Prop :=
  ((a1 < 0 →
  Q (-1) σ) ∧
 (¬ a1 < 0 →
  ((a1 < 2 →
  (vp_in a1 2 ∧
  ((¬ (σ.1 44 a1.toNatClampNeg) = 0 →
  ((a1 = 0 ∨ a1 = 1) ∧
 (a1 = 0 →
  m_X4_copy 3 24 σ  (fun σ33 =>
  sIB σ33 45 0 0 (fun σ41 =>
  Q (σ41.1 3 0) σ41))) ∧
 (a1 = 1 →
  m_X4_copy 3 34 σ  (fun σ33 =>
  sIB σ33 45 0 0 (fun σ41 =>
  Q (σ41.1 3 0) σ41))))) ∧
 ((σ.1 44 a1.toNatClampNeg) = 0 →
  Q (-3) σ)))) ∧
 (¬ a1 < 2 →
  Q (-1) σ))))
def m_X8_count (σ : St) (a1 : Int32) (Q : Int32 → St → Prop) : Prop :=
  ((a1 = 0 →
  Q (σ.1 1 0) σ) ∧
 (a1 = 1 →
  Q (σ.1 3 0) σ) ∧
 (a1 = 2 →
  Q (σ.1 10 0) σ) ∧
 (a1 = 3 →
  Q (σ.1 10 1) σ) ∧
 (a1 = 4 →
  m_X7_allToWrite 10 σ  (fun r97 σ97 =>
  m_X7_allToRead 10 σ97  (fun r107 σ107 =>
  Q (r97 ||| r107) σ107))) ∧
 (a1 = 5 →
  m_X1_flaggedBits 3 σ 15 (fun r118 σ118 =>
  Q r118 σ118)) ∧
 (a1 = 6 →
  m_X1_meetingBits 3 σ  (fun r126 σ126 =>
  Q r126 σ126)) ∧
 (a1 = 7 →
  Q (σ.1 45 0) σ) ∧
 (a1 = 8 →
  Q (σ.1 48 0) σ) ∧
 (¬ a1 = 0 ∧ ¬ a1 = 1 ∧ ¬ a1 = 2 ∧ ¬ a1 = 3 ∧ ¬ a1 = 4 ∧ ¬ a1 = 5 ∧ ¬ a1 = 6 ∧ ¬ a1 = 7 ∧ ¬ a1 = 8 →
  Q (-2) σ))
def m_X9_in (σ : St) (a0 : Int64) (a2 : Int64) (a4 : Int64) (Q : Int32 → St → Prop) : Prop :=
  (((lg_cmp a0 a2) < 0 →
  Q 0 σ) ∧
 (¬ (lg_cmp a0 a2) < 0 →
  ((0 < (lg_cmp a0 a4) →
  Q 0 σ) ∧
 (¬ 0 < (lg_cmp a0 a4) →
  Q 1 σ))))
def m_X9_has (σ : St) (a0 : Int32) (a1 : Int32) (Q : Int32 → St → Prop) : Prop :=
  ((¬ ((a0 >>> (a1 &&& 31)) &&& 1) = 1 →
  Q 0 σ) ∧
 (((a0 >>> (a1 &&& 31)) &&& 1) = 1 →
  Q 1 σ))
def m_X9_ones_L4b (a0 : Int32) (Q : Int32 → St → Prop) (K24 : St → Int32 → Prop) (Rc : St → Int32 → Int32 → Prop) (σ : St) (x1 : Int32) (x2 : Int32) : Prop :=
  ((20 ≤ x2 →
  K24 σ x1) ∧
 (¬ 20 ≤ x2 →
  bI (x1 + ((a0 >>> (x2 &&& 31)) &&& 1)) (fun y17 =>
  Rc σ y17 (x2 + 1))))
def m_X9_ones_L4 (a0 : Int32) (Q : Int32 → St → Prop) (K24 : St → Int32 → Prop) : Nat → St → Int32 → Int32 → Prop
  | 0 => fun _ _ _ => False
  | f + 1 => m_X9_ones_L4b a0 Q K24 (m_X9_ones_L4 a0 Q K24 f)
def m_X9_ones_J24 (a0 : Int32) (Q : Int32 → St → Prop) (σ : St) (x1 : Int32) : Prop :=
  Q x1 σ
def m_X9_ones (σ : St) (a0 : Int32) (Q : Int32 → St → Prop) : Prop :=
  ∃ f, m_X9_ones_L4 a0 Q (fun σ x1 => m_X9_ones_J24 a0 Q σ x1) f σ 0 0
def m_X9_begin_L2b (Q : St → Prop) (K27 : St → Prop) (Rc : St → Int32 → Prop) (σ : St) (x1 : Int32) : Prop :=
  ((4 ≤ x1 →
  K27 σ) ∧
 (¬ 4 ≤ x1 →
  (vp_in x1 4 ∧
  sIB σ 62 (x1.toNatClampNeg) 0 (fun σ13 =>
  (vp_in x1 4 ∧
  sIB σ13 63 (x1.toNatClampNeg) 0 (fun σ20 =>
  Rc σ20 (x1 + 1)))))))
def m_X9_begin_L2 (Q : St → Prop) (K27 : St → Prop) : Nat → St → Int32 → Prop
  | 0 => fun _ _ => False
  | f + 1 => m_X9_begin_L2b Q K27 (m_X9_begin_L2 Q K27 f)
def m_X9_begin_J27 (Q : St → Prop) (σ : St) : Prop :=
  sIB σ 61 2 1 (fun σ29 =>
  sIB σ29 61 3 0 (fun σ34 =>
  Q σ34))
def m_X9_begin (σ : St) (Q : St → Prop) : Prop :=
  ∃ f, m_X9_begin_L2 Q (fun σ => m_X9_begin_J27 Q σ) f σ 0
def m_X9_isRunning (σ : St) (a1 : Int32) (Q : Int32 → St → Prop) : Prop :=
  m_X9_in σ (a1.toInt64) 0 3 (fun r6 σ6 =>
  ((r6 = 0 →
  Q 0 σ6) ∧
 (¬ r6 = 0 →
  m_X9_has σ6 (σ6.1 61 2) a1 (fun r17 σ17 =>
  ((r17 = 0 →
  Q 0 σ17) ∧
 (¬ r17 = 0 →
  m_X9_has σ17 (σ17.1 61 3) a1 (fun r28 σ28 =>
  ((¬ r28 = 0 →
  Q 0 σ28) ∧
 (r28 = 0 →
  Q 1 σ28)))))))))
def m_X9_writeHeld (σ : St) (Q : Int32 → St → Prop) : Prop :=
  Q ((((σ.1 62 ((0 : Int32).toNatClampNeg)) ||| (σ.1 62 ((1 : Int32).toNatClampNeg))) ||| (σ.1 62 ((2 : Int32).toNatClampNeg))) ||| (σ.1 62 ((3 : Int32).toNatClampNeg))) σ
def m_X9_readHeld (σ : St) (Q : Int32 → St → Prop) : Prop :=
  Q ((((σ.1 63 ((0 : Int32).toNatClampNeg)) ||| (σ.1 63 ((1 : Int32).toNatClampNeg))) ||| (σ.1 63 ((2 : Int32).toNatClampNeg))) ||| (σ.1 63 ((3 : Int32).toNatClampNeg))) σ
def m_X9_isFree (σ : St) (a1 : Int32) (a2 : Int32) (a3 : Int32) (Q : Int32 → St → Prop) : Prop :=
  ((¬ a2 = 0 →
  ((¬ a2 = 1 →
  (vp_in a1 4 ∧
  (vp_in a1 4 ∧
  m_X9_has σ ((σ.1 62 a1.toNatClampNeg) ||| (σ.1 63 a1.toNatClampNeg)) a3 (fun r69 σ69 =>
  (narrow .boolean (.int r69) = .int r69 ∧ Q r69 σ69))))) ∧
 (a2 = 1 →
  m_X9_writeHeld σ  (fun r32 σ32 =>
  (vp_in a1 4 ∧
  m_X9_has σ32 (r32 ||| (σ32.1 63 a1.toNatClampNeg)) a3 (fun r43 σ43 =>
  ((¬ r43 = 0 →
  Q 0 σ43) ∧
 (r43 = 0 →
  Q 1 σ43)))))))) ∧
 (a2 = 0 →
  m_X9_writeHeld σ  (fun r5 σ5 =>
  m_X9_readHeld σ5  (fun r9 σ9 =>
  m_X9_has σ9 (r5 ||| r9) a3 (fun r14 σ14 =>
  ((¬ r14 = 0 →
  Q 0 σ14) ∧
 (r14 = 0 →
  Q 1 σ14)))))))
def m_X9_mayBe (σ : St) (a1 : Int32) (a2 : Int32) (a3 : Int32) (Q : Int32 → St → Prop) : Prop :=
  m_X9_in σ (a3.toInt64) 0 3 (fun r6 σ6 =>
  ((¬ r6 = 0 →
  ((3 ≤ a2 →
  ((5 ≤ a2 →
  ((¬ a2 = 5 →
  ((a3 = a1 →
  Q 0 σ6) ∧
 (¬ a3 = a1 →
  m_X9_isRunning σ6 a3 (fun r63 σ63 =>
  ((r63 = 0 →
  Q 0 σ63) ∧
 (¬ r63 = 0 →
  (vp_in a3 4 ∧
  (vp_in a3 4 ∧
  ((¬ ((σ63.1 62 a3.toNatClampNeg) ||| (σ63.1 63 a3.toNatClampNeg)) = 0 →
  Q 0 σ63) ∧
 (((σ63.1 62 a3.toNatClampNeg) ||| (σ63.1 63 a3.toNatClampNeg)) = 0 →
  Q 1 σ63)))))))))) ∧
 (a2 = 5 →
  m_X9_has σ6 (σ6.1 61 2) a3 (fun r44 σ44 =>
  ((¬ r44 = 0 →
  Q 0 σ44) ∧
 (r44 = 0 →
  Q 1 σ44)))))) ∧
 (¬ 5 ≤ a2 →
  Q 1 σ6))) ∧
 (¬ 3 ≤ a2 →
  m_X9_isFree σ6 a1 a2 a3 (fun r23 σ23 =>
  (narrow .boolean (.int r23) = .int r23 ∧ Q r23 σ23))))) ∧
 (r6 = 0 →
  Q 0 σ6)))
def m_X9_mayAny (σ : St) (a1 : Int32) (a2 : Int32) (Q : Int32 → St → Prop) : Prop :=
  m_X9_mayBe σ a1 a2 0 (fun r4 σ4 =>
  ((¬ r4 = 0 →
  Q 1 σ4) ∧
 (r4 = 0 →
  m_X9_mayBe σ4 a1 a2 1 (fun r14 σ14 =>
  ((¬ r14 = 0 →
  Q 1 σ14) ∧
 (r14 = 0 →
  m_X9_mayBe σ14 a1 a2 2 (fun r24 σ24 =>
  ((¬ r24 = 0 →
  Q 1 σ24) ∧
 (r24 = 0 →
  m_X9_mayBe σ24 a1 a2 3 (fun r34 σ34 =>
  ((r34 = 0 →
  Q 0 σ34) ∧
 (¬ r34 = 0 →
  Q 1 σ34))))))))))))
def m_X9_go (σ : St) (a1 : Int32) (a2 : Int32) (a3 : Int32) (Q : St → Prop) : Prop :=
  bI ((1 : Int32) <<< (a3 &&& 31)) (fun y3 =>
  ((a2 = 0 →
  (vp_in a1 4 ∧
  (vp_in a1 4 ∧
  sIB σ 62 (a1.toNatClampNeg) ((σ.1 62 a1.toNatClampNeg) ||| y3) (fun σ58 =>
  Q σ58)))) ∧
 (a2 = 1 →
  (vp_in a1 4 ∧
  (vp_in a1 4 ∧
  sIB σ 63 (a1.toNatClampNeg) ((σ.1 63 a1.toNatClampNeg) ||| y3) (fun σ72 =>
  Q σ72)))) ∧
 (a2 = 2 →
  (vp_in a1 4 ∧
  (vp_in a1 4 ∧
  sIB σ 62 (a1.toNatClampNeg) ((σ.1 62 a1.toNatClampNeg) &&& (y3 ^^^ (-1))) (fun σ88 =>
  (vp_in a1 4 ∧
  (vp_in a1 4 ∧
  sIB σ88 63 (a1.toNatClampNeg) ((σ88.1 63 a1.toNatClampNeg) &&& (y3 ^^^ (-1))) (fun σ101 =>
  Q σ101))))))) ∧
 (a2 = 5 →
  sIB σ 61 2 ((σ.1 61 2) ||| y3) (fun σ113 =>
  Q σ113)) ∧
 (a2 = 6 →
  sIB σ 61 3 ((σ.1 61 3) ||| y3) (fun σ127 =>
  Q σ127)) ∧
 (¬ a2 = 0 ∧ ¬ a2 = 1 ∧ ¬ a2 = 2 ∧ ¬ a2 = 5 ∧ ¬ a2 = 6 →
  Q σ)))
def m_X9_many (σ : St) (a1 : Int32) (Q : Int32 → St → Prop) : Prop :=
  (vp_in (21 * a1) 42 ∧
  Q (σ.1 64 (21 * a1).toNatClampNeg) σ)
def m_X9_threadAt (σ : St) (a1 : Int32) (a2 : Int32) (Q : Int32 → St → Prop) : Prop :=
  (vp_in (((21 * a1) + 1) + a2) 42 ∧
  Q ((σ.1 64 (((21 * a1) + 1) + a2).toNatClampNeg) / 100) σ)
def m_X9_signAt (σ : St) (a1 : Int32) (a2 : Int32) (Q : Int32 → St → Prop) : Prop :=
  (vp_in (((21 * a1) + 1) + a2) 42 ∧
  Q (((σ.1 64 (((21 * a1) + 1) + a2).toNatClampNeg) / 10) - ((σ.1 64 (((21 * a1) + 1) + a2).toNatClampNeg) / 10) / 10 * 10) σ)
def m_X9_aboutAt (σ : St) (a1 : Int32) (a2 : Int32) (Q : Int32 → St → Prop) : Prop :=
  (vp_in (((21 * a1) + 1) + a2) 42 ∧
  Q ((σ.1 64 (((21 * a1) + 1) + a2).toNatClampNeg) - (σ.1 64 (((21 * a1) + 1) + a2).toNatClampNeg) / 10 * 10) σ)
def m_X9_isTouch (σ : St) (a1 : Int32) (a2 : Int32) (Q : Int32 → St → Prop) : Prop :=
  m_X9_signAt σ a1 a2 (fun r3 σ3 =>
  ((r3 = 3 →
  Q 1 σ3) ∧
 (¬ r3 = 3 →
  m_X9_signAt σ3 a1 a2 (fun r13 σ13 =>
  ((¬ r13 = 4 →
  Q 0 σ13) ∧
 (r13 = 4 →
  Q 1 σ13))))))
def m_X9_isTouchOf (σ : St) (a1 : Int32) (a2 : Int32) (a3 : Int32) (Q : Int32 → St → Prop) : Prop :=
  m_X9_isTouch σ a1 a2 (fun r3 σ3 =>
  ((r3 = 0 →
  Q 0 σ3) ∧
 (¬ r3 = 0 →
  m_X9_aboutAt σ3 a1 a2 (fun r12 σ12 =>
  ((¬ r12 = a3 →
  Q 0 σ12) ∧
 (r12 = a3 →
  Q 1 σ12))))))
def m_X9_isTrace_J64 (a1 : Int32) (Q : Int32 → St → Prop) (K93 : St → Int32 → Prop) (Rc : St → Int32 → Int32 → Prop) (σ : St) (x3 : Int32) (x4 : Int32) (t0 : Int32) : Prop :=
  ((t0 = 0 →
  Rc σ t0 (x3 + 1)) ∧
 (¬ t0 = 0 →
  m_X9_signAt σ a1 x3 (fun r75 σ75 =>
  m_X9_aboutAt σ75 a1 x3 (fun r81 σ81 =>
  m_X9_go σ81 x4 r75 r81 (fun σ84 =>
  Rc σ84 t0 (x3 + 1))))))
def m_X9_isTrace_J63 (a1 : Int32) (Q : Int32 → St → Prop) (K93 : St → Int32 → Prop) (Rc : St → Int32 → Int32 → Prop) (σ : St) (x3 : Int32) (x4 : Int32) : Prop :=
  m_X9_isTrace_J64 a1 Q K93 Rc σ x3 x4 0
def m_X9_isTrace_L8b (a1 : Int32) (Q : Int32 → St → Prop) (K93 : St → Int32 → Prop) (Rc : St → Int32 → Int32 → Prop) (σ : St) (x2 : Int32) (x3 : Int32) : Prop :=
  m_X9_many σ a1 (fun r11 σ11 =>
  ((r11 ≤ x3 →
  K93 σ11 x2) ∧
 (¬ r11 ≤ x3 →
  ((x2 = 0 →
  K93 σ11 x2) ∧
 (¬ x2 = 0 →
  m_X9_threadAt σ11 a1 x3 (fun r24 σ24 =>
  m_X9_isRunning σ24 r24 (fun r32 σ32 =>
  ((r32 = 0 →
  m_X9_isTrace_J63 a1 Q K93 Rc σ32 x3 r24) ∧
 (¬ r32 = 0 →
  m_X9_signAt σ32 a1 x3 (fun r44 σ44 =>
  m_X9_aboutAt σ44 a1 x3 (fun r50 σ50 =>
  m_X9_mayBe σ50 r24 r44 r50 (fun r53 σ53 =>
  ((r53 = 0 →
  m_X9_isTrace_J63 a1 Q K93 Rc σ53 x3 r24) ∧
 (¬ r53 = 0 →
  m_X9_isTrace_J64 a1 Q K93 Rc σ53 x3 r24 1))))))))))))))
def m_X9_isTrace_L8 (a1 : Int32) (Q : Int32 → St → Prop) (K93 : St → Int32 → Prop) : Nat → St → Int32 → Int32 → Prop
  | 0 => fun _ _ _ => False
  | f + 1 => m_X9_isTrace_L8b a1 Q K93 (m_X9_isTrace_L8 a1 Q K93 f)
def m_X9_isTrace_J93 (a1 : Int32) (Q : Int32 → St → Prop) (σ : St) (x2 : Int32) : Prop :=
  (narrow .boolean (.int x2) = .int x2 ∧ Q x2 σ)
def m_X9_isTrace (σ : St) (a1 : Int32) (Q : Int32 → St → Prop) : Prop :=
  m_X9_begin σ  (fun σ1 =>
  ∃ f, m_X9_isTrace_L8 a1 Q (fun σ x2 => m_X9_isTrace_J93 a1 Q σ x2) f σ1 1 0)
def m_X9_dropOn_L15b (a1 : Int32) (a2 : Int32) (Q : St → Prop) (K56 : St → Prop) (Rc : St → Int32 → Prop) (σ : St) (x3 : Int32) : Prop :=
  m_X9_many σ a1 (fun r18 σ18 =>
  ((r18 ≤ x3 →
  K56 σ18) ∧
 (¬ r18 ≤ x3 →
  (vp_in (((21 * a1) + 2) + x3) 42 ∧
  (vp_in (((21 * a1) + 1) + x3) 42 ∧
  sIB σ18 64 ((((21 * a1) + 1) + x3).toNatClampNeg) (σ18.1 64 (((21 * a1) + 2) + x3).toNatClampNeg) (fun σ49 =>
  Rc σ49 (x3 + 1)))))))
def m_X9_dropOn_L15 (a1 : Int32) (a2 : Int32) (Q : St → Prop) (K56 : St → Prop) : Nat → St → Int32 → Prop
  | 0 => fun _ _ => False
  | f + 1 => m_X9_dropOn_L15b a1 a2 Q K56 (m_X9_dropOn_L15 a1 a2 Q K56 f)
def m_X9_dropOn_J56 (a1 : Int32) (a2 : Int32) (Q : St → Prop) (σ : St) : Prop :=
  Q σ
def m_X9_dropOn (σ : St) (a1 : Int32) (a2 : Int32) (Q : St → Prop) : Prop :=
  (vp_in (21 * a1) 42 ∧
  (vp_in (21 * a1) 42 ∧
  sIB σ 64 ((21 * a1).toNatClampNeg) ((σ.1 64 (21 * a1).toNatClampNeg) - 1) (fun σ12 =>
  ∃ f, m_X9_dropOn_L15 a1 a2 Q (fun σ => m_X9_dropOn_J56 a1 a2 Q σ) f σ12 a2)))
def m_X9_swapOn (σ : St) (a1 : Int32) (a2 : Int32) (Q : St → Prop) : Prop :=
  (vp_in (((21 * a1) + 1) + a2) 42 ∧
  bI (σ.1 64 (((21 * a1) + 1) + a2).toNatClampNeg) (fun y13 =>
  (vp_in (((21 * a1) + 2) + a2) 42 ∧
  (vp_in (((21 * a1) + 1) + a2) 42 ∧
  sIB σ 64 ((((21 * a1) + 1) + a2).toNatClampNeg) (σ.1 64 (((21 * a1) + 2) + a2).toNatClampNeg) (fun σ39 =>
  (vp_in (((21 * a1) + 2) + a2) 42 ∧
  sIB σ39 64 ((((21 * a1) + 2) + a2).toNatClampNeg) y13 (fun σ53 =>
  Q σ53)))))))
def m_X9_lay_L2b (a1 : Int32) (a2 : Int32) (Q : St → Prop) (K36 : St → Prop) (Rc : St → Int32 → Prop) (σ : St) (x3 : Int32) : Prop :=
  ((21 ≤ x3 →
  K36 σ) ∧
 (¬ 21 ≤ x3 →
  (vp_in ((21 * a2) + x3) 42 ∧
  (vp_in ((21 * a1) + x3) 42 ∧
  sIB σ 64 (((21 * a1) + x3).toNatClampNeg) (σ.1 64 ((21 * a2) + x3).toNatClampNeg) (fun σ29 =>
  Rc σ29 (x3 + 1))))))
def m_X9_lay_L2 (a1 : Int32) (a2 : Int32) (Q : St → Prop) (K36 : St → Prop) : Nat → St → Int32 → Prop
  | 0 => fun _ _ => False
  | f + 1 => m_X9_lay_L2b a1 a2 Q K36 (m_X9_lay_L2 a1 a2 Q K36 f)
def m_X9_lay_J36 (a1 : Int32) (a2 : Int32) (Q : St → Prop) (σ : St) : Prop :=
  Q σ
def m_X9_lay (σ : St) (a1 : Int32) (a2 : Int32) (Q : St → Prop) : Prop :=
  ∃ f, m_X9_lay_L2 a1 a2 Q (fun σ => m_X9_lay_J36 a1 a2 Q σ) f σ 0
def m_X9_write (σ : St) (a1 : Int32) (Q : Int32 → St → Prop) : Prop :=
  m_X9_in σ (a1.toInt64) 0 255 (fun r6 σ6 =>
  ((¬ r6 = 0 →
  ((¬ (σ6.1 61 6) = 64 →
  (vp_in (σ6.1 61 6) 64 ∧
  sIB σ6 65 ((σ6.1 61 6).toNatClampNeg) a1 (fun σ36 =>
  sIB σ36 61 6 ((σ36.1 61 6) + 1) (fun σ44 =>
  Q (σ44.1 61 6) σ44)))) ∧
 ((σ6.1 61 6) = 64 →
  Q (-4) σ6))) ∧
 (r6 = 0 →
  Q (-2) σ6)))
def m_X9_wipe (σ : St) (Q : Int32 → St → Prop) : Prop :=
  bI (σ.1 61 6) (fun y4 =>
  sIB σ 61 6 0 (fun σ7 =>
  Q y4 σ7))
def m_X9_signOf (σ : St) (a0 : Int32) (Q : Int32 → St → Prop) : Prop :=
  ((a0 = 102 →
  Q 5 σ) ∧
 (a0 = 106 →
  Q 6 σ) ∧
 (a0 = 108 →
  Q 0 σ) ∧
 (a0 = 114 →
  Q 3 σ) ∧
 (a0 = 115 →
  Q 1 σ) ∧
 (a0 = 117 →
  Q 2 σ) ∧
 (a0 = 119 →
  Q 4 σ) ∧
 (¬ a0 = 102 ∧ ¬ a0 = 106 ∧ ¬ a0 = 108 ∧ ¬ a0 = 114 ∧ ¬ a0 = 115 ∧ ¬ a0 = 117 ∧ ¬ a0 = 119 →
  Q (-9) σ))
def m_X9_aboutBy (σ : St) (a0 : Int32) (a1 : Int32) (Q : Int32 → St → Prop) : Prop :=
  ((3 ≤ a0 →
  ((5 ≤ a0 →
  Q (a1 - 48) σ) ∧
 (¬ 5 ≤ a0 →
  Q (a1 - 97) σ))) ∧
 (¬ 3 ≤ a0 →
  Q (a1 - 65) σ))
def m_X9_readText_J145 (Q : Int32 → St → Prop) (K70 : St → Int32 → Prop) (K114 : St → Int32 → Prop) (K158 : St → Int32 → Prop) (K209 : St → Prop) (Rc : St → Int32 → Prop) (σ : St) (x1 : Int32) (x2 : Int32) (x3 : Int32) (t0 : Int32) : Prop :=
  m_X9_mayBe σ x2 x3 t0 (fun r152 σ152 =>
  ((¬ r152 = 0 →
  m_X9_go σ152 x2 x3 t0 (fun σ167 =>
  (vp_in 0 21 ∧
  sIB σ167 66 ((0 : Int32).toNatClampNeg) ((σ167.1 66 ((0 : Int32).toNatClampNeg)) + 1) (fun σ179 =>
  (vp_in (σ179.1 66 ((0 : Int32).toNatClampNeg)) 21 ∧
  sIB σ179 66 ((σ179.1 66 ((0 : Int32).toNatClampNeg)).toNatClampNeg) (((100 * x2) + (10 * x3)) + t0) (fun σ202 =>
  Rc σ202 (x1 + 3))))))) ∧
 (r152 = 0 →
  K158 σ152 x1)))
def m_X9_readText_J98 (Q : Int32 → St → Prop) (K70 : St → Int32 → Prop) (K114 : St → Int32 → Prop) (K158 : St → Int32 → Prop) (K209 : St → Prop) (Rc : St → Int32 → Prop) (σ : St) (x1 : Int32) (x2 : Int32) (t0 : Int32) : Prop :=
  ((t0 = (-9) →
  K114 σ x1) ∧
 (¬ t0 = (-9) →
  m_X9_mayAny σ x2 t0 (fun r108 σ108 =>
  ((¬ r108 = 0 →
  (((σ108.1 61 6) ≤ (x1 + 2) →
  m_X9_readText_J145 Q K70 K114 K158 K209 Rc σ108 x1 x2 t0 (-9)) ∧
 (¬ (σ108.1 61 6) ≤ (x1 + 2) →
  (vp_in (x1 + 2) 64 ∧
  m_X9_aboutBy σ108 t0 (σ108.1 65 (x1 + 2).toNatClampNeg) (fun r137 σ137 =>
  m_X9_readText_J145 Q K70 K114 K158 K209 Rc σ137 x1 x2 t0 r137))))) ∧
 (r108 = 0 →
  K114 σ108 x1)))))
def m_X9_readText_L33b (Q : Int32 → St → Prop) (K70 : St → Int32 → Prop) (K114 : St → Int32 → Prop) (K158 : St → Int32 → Prop) (K209 : St → Prop) (Rc : St → Int32 → Prop) (σ : St) (x1 : Int32) : Prop :=
  (((σ.1 61 6) ≤ x1 →
  K209 σ) ∧
 (¬ (σ.1 61 6) ≤ x1 →
  (vp_in x1 64 ∧
  bI ((σ.1 65 x1.toNatClampNeg) - 48) (fun y50 =>
  (((σ.1 66 ((0 : Int32).toNatClampNeg)) = 20 →
  K70 σ x1) ∧
 (¬ (σ.1 66 ((0 : Int32).toNatClampNeg)) = 20 →
  m_X9_isRunning σ y50 (fun r64 σ64 =>
  ((¬ r64 = 0 →
  (((σ64.1 61 6) ≤ (x1 + 1) →
  m_X9_readText_J98 Q K70 K114 K158 K209 Rc σ64 x1 y50 (-9)) ∧
 (¬ (σ64.1 61 6) ≤ (x1 + 1) →
  (vp_in (x1 + 1) 64 ∧
  m_X9_signOf σ64 (σ64.1 65 (x1 + 1).toNatClampNeg) (fun r90 σ90 =>
  m_X9_readText_J98 Q K70 K114 K158 K209 Rc σ90 x1 y50 r90))))) ∧
 (r64 = 0 →
  K70 σ64 x1)))))))))
def m_X9_readText_L33 (Q : Int32 → St → Prop) (K70 : St → Int32 → Prop) (K114 : St → Int32 → Prop) (K158 : St → Int32 → Prop) (K209 : St → Prop) : Nat → St → Int32 → Prop
  | 0 => fun _ _ => False
  | f + 1 => m_X9_readText_L33b Q K70 K114 K158 K209 (m_X9_readText_L33 Q K70 K114 K158 K209 f)
def m_X9_readText_J70 (Q : Int32 → St → Prop) (σ : St) (x1 : Int32) : Prop :=
  Q x1 σ
def m_X9_readText_J114 (Q : Int32 → St → Prop) (σ : St) (x1 : Int32) : Prop :=
  Q (x1 + 1) σ
def m_X9_readText_J158 (Q : Int32 → St → Prop) (σ : St) (x1 : Int32) : Prop :=
  Q (x1 + 2) σ
def m_X9_readText_J209 (Q : Int32 → St → Prop) (σ : St) : Prop :=
  Q (-9) σ
def m_X9_readText (σ : St) (Q : Int32 → St → Prop) : Prop :=
  (vp_in 0 21 ∧
  sIB σ 66 ((0 : Int32).toNatClampNeg) 0 (fun σ6 =>
  m_X9_begin σ6  (fun σ8 =>
  (((σ8.1 61 6) = 0 →
  Q 0 σ8) ∧
 (¬ (σ8.1 61 6) = 0 →
  (((σ8.1 65 ((0 : Int32).toNatClampNeg)) = 84 →
  ∃ f, m_X9_readText_L33 Q (fun σ x1 => m_X9_readText_J70 Q σ x1) (fun σ x1 => m_X9_readText_J114 Q σ x1) (fun σ x1 => m_X9_readText_J158 Q σ x1) (fun σ => m_X9_readText_J209 Q σ) f σ8 1) ∧
 (¬ (σ8.1 65 ((0 : Int32).toNatClampNeg)) = 84 →
  Q 0 σ8)))))))
def m_X9_fault (σ : St) (Q : Int32 → St → Prop) : Prop :=
  m_X9_readText σ  (fun r1 σ1 =>
  Q r1 σ1)
def m_X9_trace_L14b (Q : Int32 → St → Prop) (K38 : St → Prop) (Rc : St → Int32 → Prop) (σ : St) (x1 : Int32) : Prop :=
  ((21 ≤ x1 →
  K38 σ) ∧
 (¬ 21 ≤ x1 →
  (vp_in x1 21 ∧
  (vp_in x1 42 ∧
  sIB σ 64 (x1.toNatClampNeg) (σ.1 66 x1.toNatClampNeg) (fun σ31 =>
  Rc σ31 (x1 + 1))))))
def m_X9_trace_L14 (Q : Int32 → St → Prop) (K38 : St → Prop) : Nat → St → Int32 → Prop
  | 0 => fun _ _ => False
  | f + 1 => m_X9_trace_L14b Q K38 (m_X9_trace_L14 Q K38 f)
def m_X9_trace_J38 (Q : Int32 → St → Prop) (σ : St) : Prop :=
  sIB σ 61 10 0 (fun σ40 =>
  (vp_in 0 2 ∧
  sIB σ40 83 ((0 : Int32).toNatClampNeg) (vp_nar .boolean 0) (fun σ49 =>
  (vp_in 1 2 ∧
  sIB σ49 83 ((1 : Int32).toNatClampNeg) (vp_nar .boolean 0) (fun σ56 =>
  m_X9_many σ56 0 (fun r59 σ59 =>
  Q r59 σ59))))))
def m_X9_trace (σ : St) (Q : Int32 → St → Prop) : Prop :=
  m_X9_readText σ  (fun r1 σ1 =>
  ((r1 = (-9) →
  ∃ f, m_X9_trace_L14 Q (fun σ => m_X9_trace_J38 Q σ) f σ1 0) ∧
 (¬ r1 = (-9) →
  Q (-3) σ1)))
def m_X9_findHeld_L6b (a1 : Int32) (Q : St → Prop) (K69 : St → Prop) (Rc : St → Int32 → Prop) (σ : St) (x2 : Int32) : Prop :=
  m_X9_many σ a1 (fun r9 σ9 =>
  ((r9 ≤ x2 →
  K69 σ9) ∧
 (¬ r9 ≤ x2 →
  m_X9_threadAt σ9 a1 x2 (fun r18 σ18 =>
  (vp_in r18 4 ∧
  (vp_in x2 20 ∧
  sIB σ18 67 (x2.toNatClampNeg) (σ18.1 62 r18.toNatClampNeg) (fun σ33 =>
  (vp_in r18 4 ∧
  (vp_in x2 20 ∧
  sIB σ33 68 (x2.toNatClampNeg) (σ33.1 63 r18.toNatClampNeg) (fun σ45 =>
  m_X9_signAt σ45 a1 x2 (fun r51 σ51 =>
  m_X9_aboutAt σ51 a1 x2 (fun r57 σ57 =>
  m_X9_go σ57 r18 r51 r57 (fun σ60 =>
  Rc σ60 (x2 + 1))))))))))))))
def m_X9_findHeld_L6 (a1 : Int32) (Q : St → Prop) (K69 : St → Prop) : Nat → St → Int32 → Prop
  | 0 => fun _ _ => False
  | f + 1 => m_X9_findHeld_L6b a1 Q K69 (m_X9_findHeld_L6 a1 Q K69 f)
def m_X9_findHeld_J69 (a1 : Int32) (Q : St → Prop) (σ : St) : Prop :=
  Q σ
def m_X9_findHeld (σ : St) (a1 : Int32) (Q : St → Prop) : Prop :=
  m_X9_begin σ  (fun σ1 =>
  ∃ f, m_X9_findHeld_L6 a1 Q (fun σ => m_X9_findHeld_J69 a1 Q σ) f σ1 0)
def m_X9_isStep (σ : St) (a1 : Int32) (a2 : Int32) (Q : Int32 → St → Prop) : Prop :=
  m_X9_many σ a1 (fun r5 σ5 =>
  m_X9_in σ5 (a2.toInt64) 0 ((r5 - 1).toInt64) (fun r11 σ11 =>
  (narrow .boolean (.int r11) = .int r11 ∧ Q r11 σ11)))
def m_X9_letterOf (σ : St) (a0 : Int32) (Q : Int32 → St → Prop) : Prop :=
  ((a0 = 0 →
  Q 108 σ) ∧
 (a0 = 1 →
  Q 115 σ) ∧
 (a0 = 2 →
  Q 117 σ) ∧
 (a0 = 3 →
  Q 114 σ) ∧
 (a0 = 4 →
  Q 119 σ) ∧
 (a0 = 5 →
  Q 102 σ) ∧
 (¬ a0 = 0 ∧ ¬ a0 = 1 ∧ ¬ a0 = 2 ∧ ¬ a0 = 3 ∧ ¬ a0 = 4 ∧ ¬ a0 = 5 →
  Q 106 σ))
def m_X9_step (σ : St) (a1 : Int32) (a2 : Int32) (Q : Int32 → St → Prop) : Prop :=
  m_X9_isStep σ 0 a1 (fun r3 σ3 =>
  ((¬ r3 = 0 →
  m_X9_findHeld σ3 0 (fun σ13 =>
  ((a2 = 0 →
  m_X9_threadAt σ13 0 a1 (fun r55 σ55 =>
  Q r55 σ55)) ∧
 (a2 = 1 →
  m_X9_signAt σ13 0 a1 (fun r62 σ62 =>
  m_X9_letterOf σ62 r62 (fun r65 σ65 =>
  Q r65 σ65))) ∧
 (a2 = 2 →
  m_X9_aboutAt σ13 0 a1 (fun r72 σ72 =>
  Q r72 σ72)) ∧
 (a2 = 3 →
  (vp_in a1 20 ∧
  Q (σ13.1 67 a1.toNatClampNeg) σ13)) ∧
 (a2 = 4 →
  (vp_in a1 20 ∧
  Q (σ13.1 68 a1.toNatClampNeg) σ13)) ∧
 (¬ a2 = 0 ∧ ¬ a2 = 1 ∧ ¬ a2 = 2 ∧ ¬ a2 = 3 ∧ ¬ a2 = 4 →
  Q (-2) σ13)))) ∧
 (r3 = 0 →
  Q (-1) σ3)))
def m_X9_keepAct_L2b (Q : St → Prop) (K34 : St → Prop) (Rc : St → Int32 → Prop) (σ : St) (x1 : Int32) : Prop :=
  ((21 ≤ x1 →
  K34 σ) ∧
 (¬ 21 ≤ x1 →
  (vp_in x1 42 ∧
  (vp_in ((21 * (σ.1 61 11)) + x1) 294 ∧
  sIB σ 69 (((21 * (σ.1 61 11)) + x1).toNatClampNeg) (σ.1 64 x1.toNatClampNeg) (fun σ27 =>
  Rc σ27 (x1 + 1))))))
def m_X9_keepAct_L2 (Q : St → Prop) (K34 : St → Prop) : Nat → St → Int32 → Prop
  | 0 => fun _ _ => False
  | f + 1 => m_X9_keepAct_L2b Q K34 (m_X9_keepAct_L2 Q K34 f)
def m_X9_keepAct_J34 (Q : St → Prop) (σ : St) : Prop :=
  sIB σ 61 11 (((σ.1 61 11) + 1) - ((σ.1 61 11) + 1) / 14 * 14) (fun σ44 =>
  ((14 ≤ (σ44.1 61 10) →
  sIB σ44 61 10 14 (fun σ68 =>
  Q σ68)) ∧
 (¬ 14 ≤ (σ44.1 61 10) →
  sIB σ44 61 10 ((σ44.1 61 10) + 1) (fun σ68 =>
  Q σ68))))
def m_X9_keepAct (σ : St) (Q : St → Prop) : Prop :=
  ∃ f, m_X9_keepAct_L2 Q (fun σ => m_X9_keepAct_J34 Q σ) f σ 0
def m_X9_takeTrial (σ : St) (Q : Int32 → St → Prop) : Prop :=
  m_X9_isTrace σ 1 (fun r2 σ2 =>
  ((¬ r2 = 0 →
  m_X9_keepAct σ2  (fun σ11 =>
  m_X9_lay σ11 0 1 (fun σ17 =>
  Q 1 σ17))) ∧
 (r2 = 0 →
  Q 0 σ2)))
def m_X9_drop (σ : St) (a1 : Int32) (Q : Int32 → St → Prop) : Prop :=
  m_X9_isStep σ 0 a1 (fun r3 σ3 =>
  ((¬ r3 = 0 →
  m_X9_lay σ3 1 0 (fun σ14 =>
  m_X9_dropOn σ14 1 a1 (fun σ20 =>
  m_X9_takeTrial σ20  (fun r24 σ24 =>
  ((r24 = 0 →
  Q (-3) σ24) ∧
 (¬ r24 = 0 →
  m_X9_many σ24 0 (fun r32 σ32 =>
  Q r32 σ32))))))) ∧
 (r3 = 0 →
  Q (-1) σ3)))
def m_X9_swap (σ : St) (a1 : Int32) (Q : Int32 → St → Prop) : Prop :=
  m_X9_isStep σ 0 a1 (fun r3 σ3 =>
  ((r3 = 0 →
  Q (-1) σ3) ∧
 (¬ r3 = 0 →
  m_X9_many σ3 0 (fun r12 σ12 =>
  ((¬ a1 = (r12 - 1) →
  m_X9_threadAt σ12 0 a1 (fun r25 σ25 =>
  m_X9_lay σ25 1 0 (fun σ32 =>
  m_X9_swapOn σ32 1 a1 (fun σ38 =>
  m_X9_takeTrial σ38  (fun r42 σ42 =>
  ((r42 = 0 →
  Q (-3) σ42) ∧
 (¬ r42 = 0 →
  Q r25 σ42))))))) ∧
 (a1 = (r12 - 1) →
  Q (-1) σ12))))))
def m_X9_undo_L36b (Q : Int32 → St → Prop) (K68 : St → Prop) (Rc : St → Int32 → Prop) (σ : St) (x1 : Int32) : Prop :=
  ((21 ≤ x1 →
  K68 σ) ∧
 (¬ 21 ≤ x1 →
  (vp_in ((21 * (σ.1 61 11)) + x1) 294 ∧
  (vp_in x1 42 ∧
  sIB σ 64 (x1.toNatClampNeg) (σ.1 69 ((21 * (σ.1 61 11)) + x1).toNatClampNeg) (fun σ61 =>
  Rc σ61 (x1 + 1))))))
def m_X9_undo_L36 (Q : Int32 → St → Prop) (K68 : St → Prop) : Nat → St → Int32 → Prop
  | 0 => fun _ _ => False
  | f + 1 => m_X9_undo_L36b Q K68 (m_X9_undo_L36 Q K68 f)
def m_X9_undo_J68 (Q : Int32 → St → Prop) (σ : St) : Prop :=
  Q (σ.1 61 10) σ
def m_X9_undo (σ : St) (Q : Int32 → St → Prop) : Prop :=
  ((¬ (σ.1 61 10) = 0 →
  sIB σ 61 10 ((σ.1 61 10) - 1) (fun σ17 =>
  sIB σ17 61 11 (((σ17.1 61 11) + 13) - ((σ17.1 61 11) + 13) / 14 * 14) (fun σ31 =>
  ∃ f, m_X9_undo_L36 Q (fun σ => m_X9_undo_J68 Q σ) f σ31 0))) ∧
 ((σ.1 61 10) = 0 →
  Q (-3) σ))
def m_X9_guardsOf (σ : St) (a1 : Int32) (a2 : Int32) (Q : Int32 → St → Prop) : Prop :=
  m_X9_signAt σ a1 a2 (fun r3 σ3 =>
  ((¬ r3 = 3 →
  (vp_in a2 20 ∧
  Q (σ3.1 67 a2.toNatClampNeg) σ3)) ∧
 (r3 = 3 →
  (vp_in a2 20 ∧
  (vp_in a2 20 ∧
  Q ((σ3.1 67 a2.toNatClampNeg) ||| (σ3.1 68 a2.toNatClampNeg)) σ3)))))
def m_X9_watch_J142 (a1 : Int32) (a2 : Int32) (a3 : Int32) (Q : St → Prop) (σ : St) : Prop :=
  ((¬ (σ.1 61 16) = (-9) →
  sIB σ 61 16 (σ.1 61 16) (fun σ175 =>
  Q σ175)) ∧
 ((σ.1 61 16) = (-9) →
  ((¬ (σ.1 61 13) = 3 →
  sIB σ 61 16 (σ.1 61 16) (fun σ175 =>
  Q σ175)) ∧
 ((σ.1 61 13) = 3 →
  ((¬ (σ.1 61 14) = 0 →
  sIB σ 61 16 (σ.1 61 16) (fun σ175 =>
  Q σ175)) ∧
 ((σ.1 61 14) = 0 →
  sIB σ 61 16 a2 (fun σ175 =>
  Q σ175)))))))
def m_X9_watch_J128 (a1 : Int32) (a2 : Int32) (a3 : Int32) (Q : St → Prop) (σ : St) (x5 : Int32) (t1 : Int32) : Prop :=
  sIB σ 61 13 t1 (fun σ128 =>
  sIB σ128 61 14 ((σ128.1 61 14) &&& x5) (fun σ139 =>
  m_X9_watch_J142 a1 a2 a3 Q σ139))
def m_X9_watch_J106 (a1 : Int32) (a2 : Int32) (a3 : Int32) (Q : St → Prop) (σ : St) (x4 : Int32) (x5 : Int32) : Prop :=
  (((σ.1 61 13) ≤ 1 →
  m_X9_watch_J142 a1 a2 a3 Q σ) ∧
 (¬ (σ.1 61 13) ≤ 1 →
  ((x4 = 0 →
  m_X9_watch_J128 a1 a2 a3 Q σ x5 (σ.1 61 13)) ∧
 (¬ x4 = 0 →
  m_X9_watch_J128 a1 a2 a3 Q σ x5 3))))
def m_X9_watch_J94 (a1 : Int32) (a2 : Int32) (a3 : Int32) (Q : St → Prop) (σ : St) (x5 : Int32) (t1 : Int32) : Prop :=
  sIB σ 61 13 t1 (fun σ94 =>
  sIB σ94 61 14 x5 (fun σ100 =>
  m_X9_watch_J142 a1 a2 a3 Q σ100))
def m_X9_watch_J15 (a1 : Int32) (a2 : Int32) (a3 : Int32) (Q : St → Prop) (σ : St) (t0 : Int32) : Prop :=
  m_X9_guardsOf σ a1 a2 (fun r20 σ20 =>
  bI (r20 &&& a3) (fun y25 =>
  m_X9_threadAt σ20 a1 a2 (fun r30 σ30 =>
  sIB σ30 61 17 ((σ30.1 61 17) + 1) (fun σ42 =>
  ((¬ (σ42.1 61 13) = 0 →
  ((¬ (σ42.1 61 13) = 1 →
  m_X9_watch_J106 a1 a2 a3 Q σ42 t0 y25) ∧
 ((σ42.1 61 13) = 1 →
  ((r30 = (σ42.1 61 15) →
  m_X9_watch_J106 a1 a2 a3 Q σ42 t0 y25) ∧
 (¬ r30 = (σ42.1 61 15) →
  ((t0 = 0 →
  m_X9_watch_J94 a1 a2 a3 Q σ42 y25 2) ∧
 (¬ t0 = 0 →
  m_X9_watch_J94 a1 a2 a3 Q σ42 y25 3))))))) ∧
 ((σ42.1 61 13) = 0 →
  sIB σ42 61 13 1 (fun σ54 =>
  sIB σ54 61 15 r30 (fun σ60 =>
  m_X9_watch_J142 a1 a2 a3 Q σ60))))))))
def m_X9_watch (σ : St) (a1 : Int32) (a2 : Int32) (a3 : Int32) (Q : St → Prop) : Prop :=
  m_X9_signAt σ a1 a2 (fun r3 σ3 =>
  ((¬ r3 = 4 →
  m_X9_watch_J15 a1 a2 a3 Q σ3 0) ∧
 (r3 = 4 →
  m_X9_watch_J15 a1 a2 a3 Q σ3 1)))
def m_X9_watchCell_L31b (a1 : Int32) (a2 : Int32) (a3 : Int32) (a4 : Int32) (a5 : Int32) (Q : St → Prop) (K73 : St → Prop) (Rc : St → Int32 → Prop) (σ : St) (x6 : Int32) : Prop :=
  ((a3 ≤ x6 →
  K73 σ) ∧
 (¬ a3 ≤ x6 →
  m_X9_isTouchOf σ a1 x6 a2 (fun r42 σ42 =>
  ((r42 = 0 →
  Rc σ42 (x6 + 1)) ∧
 (¬ r42 = 0 →
  m_X9_has σ42 a5 x6 (fun r52 σ52 =>
  ((¬ r52 = 0 →
  Rc σ52 (x6 + 1)) ∧
 (r52 = 0 →
  m_X9_watch σ52 a1 x6 a4 (fun σ64 =>
  Rc σ64 (x6 + 1))))))))))
def m_X9_watchCell_L31 (a1 : Int32) (a2 : Int32) (a3 : Int32) (a4 : Int32) (a5 : Int32) (Q : St → Prop) (K73 : St → Prop) : Nat → St → Int32 → Prop
  | 0 => fun _ _ => False
  | f + 1 => m_X9_watchCell_L31b a1 a2 a3 a4 a5 Q K73 (m_X9_watchCell_L31 a1 a2 a3 a4 a5 Q K73 f)
def m_X9_watchCell_J73 (a1 : Int32) (a2 : Int32) (a3 : Int32) (a4 : Int32) (a5 : Int32) (Q : St → Prop) (σ : St) : Prop :=
  Q σ
def m_X9_watchCell (σ : St) (a1 : Int32) (a2 : Int32) (a3 : Int32) (a4 : Int32) (a5 : Int32) (Q : St → Prop) : Prop :=
  sIB σ 61 13 0 (fun σ2 =>
  sIB σ2 61 14 15 (fun σ8 =>
  sIB σ8 61 15 (-9) (fun σ14 =>
  sIB σ14 61 16 (-9) (fun σ20 =>
  sIB σ20 61 17 0 (fun σ25 =>
  ∃ f, m_X9_watchCell_L31 a1 a2 a3 a4 a5 Q (fun σ => m_X9_watchCell_J73 a1 a2 a3 a4 a5 Q σ) f σ25 0)))))
def m_X9_isFour (σ : St) (a0 : Int32) (Q : Int32 → St → Prop) : Prop :=
  m_X9_in σ (a0.toInt64) 0 3 (fun r6 σ6 =>
  (narrow .boolean (.int r6) = .int r6 ∧ Q r6 σ6))
def m_X9_cell (σ : St) (a1 : Int32) (a2 : Int32) (a3 : Int32) (Q : Int32 → St → Prop) : Prop :=
  m_X9_isFour σ a1 (fun r1 σ1 =>
  ((¬ r1 = 0 →
  m_X9_many σ1 0 (fun r14 σ14 =>
  m_X9_in σ14 (a2.toInt64) 0 (r14.toInt64) (fun r18 σ18 =>
  ((r18 = 0 →
  Q (-2) σ18) ∧
 (¬ r18 = 0 →
  m_X9_in σ18 (a3.toInt64) 0 4 (fun r30 σ30 =>
  ((¬ r30 = 0 →
  m_X9_findHeld σ30 0 (fun σ41 =>
  m_X9_watchCell σ41 0 a1 a2 15 0 (fun σ51 =>
  ((a3 = 0 →
  Q (σ51.1 61 13) σ51) ∧
 (a3 = 1 →
  ((2 ≤ (σ51.1 61 13) →
  Q (σ51.1 61 14) σ51) ∧
 (¬ 2 ≤ (σ51.1 61 13) →
  Q 15 σ51))) ∧
 (a3 = 2 →
  ((¬ (σ51.1 61 13) = 1 →
  Q (-9) σ51) ∧
 ((σ51.1 61 13) = 1 →
  Q (σ51.1 61 15) σ51))) ∧
 (a3 = 3 →
  Q (σ51.1 61 16) σ51) ∧
 (¬ a3 = 0 ∧ ¬ a3 = 1 ∧ ¬ a3 = 2 ∧ ¬ a3 = 3 →
  Q (σ51.1 61 17) σ51))))) ∧
 (r30 = 0 →
  Q (-2) σ30)))))))) ∧
 (r1 = 0 →
  Q (-1) σ1)))
def m_X9_flaggedOn_L5b (a1 : Int32) (a2 : Int32) (Q : Int32 → St → Prop) (K51 : St → Int32 → Prop) (Rc : St → Int32 → Int32 → Prop) (σ : St) (x3 : Int32) (x4 : Int32) : Prop :=
  ((4 ≤ x4 →
  K51 σ x3) ∧
 (¬ 4 ≤ x4 →
  m_X9_many σ a1 (fun r17 σ17 =>
  m_X9_watchCell σ17 a1 x4 r17 a2 0 (fun σ22 =>
  ((¬ (σ22.1 61 16) = (-9) →
  bI (x3 ||| ((1 : Int32) <<< (x4 &&& 31))) (fun y44 =>
  Rc σ22 y44 (x4 + 1))) ∧
 ((σ22.1 61 16) = (-9) →
  bI (x3 ||| 0) (fun y44 =>
  Rc σ22 y44 (x4 + 1))))))))
def m_X9_flaggedOn_L5 (a1 : Int32) (a2 : Int32) (Q : Int32 → St → Prop) (K51 : St → Int32 → Prop) : Nat → St → Int32 → Int32 → Prop
  | 0 => fun _ _ _ => False
  | f + 1 => m_X9_flaggedOn_L5b a1 a2 Q K51 (m_X9_flaggedOn_L5 a1 a2 Q K51 f)
def m_X9_flaggedOn_J51 (a1 : Int32) (a2 : Int32) (Q : Int32 → St → Prop) (σ : St) (x3 : Int32) : Prop :=
  Q x3 σ
def m_X9_flaggedOn (σ : St) (a1 : Int32) (a2 : Int32) (Q : Int32 → St → Prop) : Prop :=
  ∃ f, m_X9_flaggedOn_L5 a1 a2 Q (fun σ x3 => m_X9_flaggedOn_J51 a1 a2 Q σ x3) f σ 0 0
def m_X9_allBefore_L6b (a1 : Int32) (a2 : Int32) (a3 : Int32) (Q : Int32 → St → Prop) (K50 : St → Int32 → Prop) (Rc : St → Int32 → Int32 → Prop) (σ : St) (x4 : Int32) (x5 : Int32) : Prop :=
  ((a3 ≤ x5 →
  K50 σ x4) ∧
 (¬ a3 ≤ x5 →
  m_X9_threadAt σ a1 x5 (fun r18 σ18 =>
  ((¬ r18 = a2 →
  bI (x4 ||| 0) (fun y42 =>
  Rc σ18 y42 (x5 + 1))) ∧
 (r18 = a2 →
  (vp_in x5 20 ∧
  bI (x4 ||| (((1 : Int32) <<< (x5 &&& 31)) ||| (σ18.1 70 x5.toNatClampNeg))) (fun y42 =>
  Rc σ18 y42 (x5 + 1))))))))
def m_X9_allBefore_L6 (a1 : Int32) (a2 : Int32) (a3 : Int32) (Q : Int32 → St → Prop) (K50 : St → Int32 → Prop) : Nat → St → Int32 → Int32 → Prop
  | 0 => fun _ _ _ => False
  | f + 1 => m_X9_allBefore_L6b a1 a2 a3 Q K50 (m_X9_allBefore_L6 a1 a2 a3 Q K50 f)
def m_X9_allBefore_J50 (a1 : Int32) (a2 : Int32) (a3 : Int32) (Q : Int32 → St → Prop) (σ : St) (x4 : Int32) : Prop :=
  Q x4 σ
def m_X9_allBefore (σ : St) (a1 : Int32) (a2 : Int32) (a3 : Int32) (Q : Int32 → St → Prop) : Prop :=
  ∃ f, m_X9_allBefore_L6 a1 a2 a3 Q (fun σ x4 => m_X9_allBefore_J50 a1 a2 a3 Q σ x4) f σ 0 0
def m_X9_findBefore_J67 (a1 : Int32) (Q : St → Prop) (x2 : Int32) (x3 : Int32) (K105 : St → Prop) (Rc : St → Int32 → Prop) (σ : St) (x4 : Int32) (t0 : Int32) : Prop :=
  (vp_in x2 20 ∧
  ((t0 = 0 →
  (vp_in x2 20 ∧
  sIB σ 70 (x2.toNatClampNeg) ((σ.1 70 x2.toNatClampNeg) ||| 0) (fun σ98 =>
  Rc σ98 (x4 + 1)))) ∧
 (¬ t0 = 0 →
  (vp_in x4 20 ∧
  (vp_in x2 20 ∧
  sIB σ 70 (x2.toNatClampNeg) ((σ.1 70 x2.toNatClampNeg) ||| (((1 : Int32) <<< (x4 &&& 31)) ||| (σ.1 70 x4.toNatClampNeg))) (fun σ98 =>
  Rc σ98 (x4 + 1)))))))
def m_X9_findBefore_J66 (a1 : Int32) (Q : St → Prop) (x2 : Int32) (x3 : Int32) (K105 : St → Prop) (Rc : St → Int32 → Prop) (σ : St) (x4 : Int32) : Prop :=
  m_X9_findBefore_J67 a1 Q x2 x3 K105 Rc σ x4 0
def m_X9_findBefore_L34b (a1 : Int32) (Q : St → Prop) (x2 : Int32) (x3 : Int32) (K105 : St → Prop) (Rc : St → Int32 → Prop) (σ : St) (x4 : Int32) : Prop :=
  ((x2 ≤ x4 →
  K105 σ) ∧
 (¬ x2 ≤ x4 →
  m_X9_signAt σ a1 x4 (fun r44 σ44 =>
  ((¬ r44 = 5 →
  m_X9_findBefore_J66 a1 Q x2 x3 K105 Rc σ44 x4) ∧
 (r44 = 5 →
  m_X9_aboutAt σ44 a1 x4 (fun r55 σ55 =>
  ((¬ r55 = x3 →
  m_X9_findBefore_J66 a1 Q x2 x3 K105 Rc σ55 x4) ∧
 (r55 = x3 →
  m_X9_findBefore_J67 a1 Q x2 x3 K105 Rc σ55 x4 1))))))))
def m_X9_findBefore_L34 (a1 : Int32) (Q : St → Prop) (x2 : Int32) (x3 : Int32) (K105 : St → Prop) : Nat → St → Int32 → Prop
  | 0 => fun _ _ => False
  | f + 1 => m_X9_findBefore_L34b a1 Q x2 x3 K105 (m_X9_findBefore_L34 a1 Q x2 x3 K105 f)
def m_X9_findBefore_J105 (a1 : Int32) (Q : St → Prop) (K147 : St → Prop) (Rc : St → Int32 → Prop) (σ : St) (x2 : Int32) : Prop :=
  (vp_in x2 20 ∧
  m_X9_signAt σ a1 x2 (fun r115 σ115 =>
  ((¬ r115 = 6 →
  (vp_in x2 20 ∧
  sIB σ115 70 (x2.toNatClampNeg) ((σ.1 70 x2.toNatClampNeg) ||| 0) (fun σ140 =>
  Rc σ140 (x2 + 1)))) ∧
 (r115 = 6 →
  m_X9_aboutAt σ115 a1 x2 (fun r128 σ128 =>
  m_X9_allBefore σ128 a1 r128 x2 (fun r132 σ132 =>
  (vp_in x2 20 ∧
  sIB σ132 70 (x2.toNatClampNeg) ((σ.1 70 x2.toNatClampNeg) ||| r132) (fun σ140 =>
  Rc σ140 (x2 + 1)))))))))
def m_X9_findBefore_L2b (a1 : Int32) (Q : St → Prop) (K147 : St → Prop) (Rc : St → Int32 → Prop) (σ : St) (x2 : Int32) : Prop :=
  m_X9_many σ a1 (fun r5 σ5 =>
  ((r5 ≤ x2 →
  K147 σ5) ∧
 (¬ r5 ≤ x2 →
  m_X9_threadAt σ5 a1 x2 (fun r14 σ14 =>
  m_X9_allBefore σ14 a1 r14 x2 (fun r27 σ27 =>
  (vp_in x2 20 ∧
  sIB σ27 70 (x2.toNatClampNeg) r27 (fun σ30 =>
  ∃ f, m_X9_findBefore_L34 a1 Q x2 r14 (fun σ => m_X9_findBefore_J105 a1 Q K147 Rc σ x2) f σ30 0)))))))
def m_X9_findBefore_L2 (a1 : Int32) (Q : St → Prop) (K147 : St → Prop) : Nat → St → Int32 → Prop
  | 0 => fun _ _ => False
  | f + 1 => m_X9_findBefore_L2b a1 Q K147 (m_X9_findBefore_L2 a1 Q K147 f)
def m_X9_findBefore_J147 (a1 : Int32) (Q : St → Prop) (σ : St) : Prop :=
  Q σ
def m_X9_findBefore (σ : St) (a1 : Int32) (Q : St → Prop) : Prop :=
  ∃ f, m_X9_findBefore_L2 a1 Q (fun σ => m_X9_findBefore_J147 a1 Q σ) f σ 0
