def m_X9_ahead (σ : St) (a1 : Int32) (a2 : Int32) (Q : Int32 → St → Prop) : Prop :=
  m_X9_isStep σ 0 a1 (fun r3 σ3 =>
  ((r3 = 0 →
  Q (-1) σ3) ∧
 (¬ r3 = 0 →
  m_X9_isStep σ3 0 a2 (fun r12 σ12 =>
  ((¬ r12 = 0 →
  m_X9_findBefore σ12 0 (fun σ22 =>
  (vp_in a2 20 ∧
  m_X9_has σ22 (σ22.1 70 a2.toNatClampNeg) a1 (fun r32 σ32 =>
  ((r32 = 0 →
  Q 0 σ32) ∧
 (¬ r32 = 0 →
  Q 1 σ32)))))) ∧
 (r12 = 0 →
  Q (-1) σ12))))))
def m_X9_areMeeting_J46 (a1 : Int32) (a2 : Int32) (Q : Int32 → St → Prop) (σ : St) (x3 : Int32) (t0 : Int32) : Prop :=
  ((x3 = 0 →
  Q 0 σ) ∧
 (¬ x3 = 0 →
  ((t0 = 0 →
  Q 0 σ) ∧
 (¬ t0 = 0 →
  (vp_in a2 20 ∧
  m_X9_has σ (σ.1 70 a2.toNatClampNeg) a1 (fun r64 σ64 =>
  ((¬ r64 = 0 →
  Q 0 σ64) ∧
 (r64 = 0 →
  m_X9_guardsOf σ64 0 a1 (fun r73 σ73 =>
  m_X9_guardsOf σ73 0 a2 (fun r79 σ79 =>
  ((¬ (r73 &&& r79) = 0 →
  Q 0 σ79) ∧
 ((r73 &&& r79) = 0 →
  Q 1 σ79))))))))))))
def m_X9_areMeeting_J41 (a1 : Int32) (a2 : Int32) (Q : Int32 → St → Prop) (σ : St) (x3 : Int32) : Prop :=
  m_X9_areMeeting_J46 a1 a2 Q σ x3 1
def m_X9_areMeeting_J20 (a1 : Int32) (a2 : Int32) (Q : Int32 → St → Prop) (σ : St) (t0 : Int32) : Prop :=
  m_X9_signAt σ 0 a1 (fun r24 σ24 =>
  ((r24 = 4 →
  m_X9_areMeeting_J41 a1 a2 Q σ24 t0) ∧
 (¬ r24 = 4 →
  m_X9_signAt σ24 0 a2 (fun r34 σ34 =>
  ((¬ r34 = 4 →
  m_X9_areMeeting_J46 a1 a2 Q σ34 t0 0) ∧
 (r34 = 4 →
  m_X9_areMeeting_J41 a1 a2 Q σ34 t0))))))
def m_X9_areMeeting (σ : St) (a1 : Int32) (a2 : Int32) (Q : Int32 → St → Prop) : Prop :=
  m_X9_threadAt σ 0 a1 (fun r3 σ3 =>
  m_X9_threadAt σ3 0 a2 (fun r9 σ9 =>
  ((r3 = r9 →
  m_X9_areMeeting_J20 a1 a2 Q σ9 0) ∧
 (¬ r3 = r9 →
  m_X9_areMeeting_J20 a1 a2 Q σ9 1))))
def m_X9_meetingsOf_L24b (a1 : Int32) (Q : Int32 → St → Prop) (x3 : Int32) (K96 : St → Int32 → Prop) (Rc : St → Int32 → Int32 → Prop) (σ : St) (x2 : Int32) (x4 : Int32) : Prop :=
  m_X9_many σ 0 (fun r28 σ28 =>
  ((r28 ≤ x4 →
  K96 σ28 x2) ∧
 (¬ r28 ≤ x4 →
  m_X9_isTouchOf σ28 0 x3 a1 (fun r38 σ38 =>
  ((r38 = 0 →
  Rc σ38 x2 (x4 + 1)) ∧
 (¬ r38 = 0 →
  m_X9_isTouchOf σ38 0 x4 a1 (fun r49 σ49 =>
  ((r49 = 0 →
  Rc σ49 x2 (x4 + 1)) ∧
 (¬ r49 = 0 →
  m_X9_areMeeting σ49 x3 x4 (fun r59 σ59 =>
  ((r59 = 0 →
  Rc σ59 x2 (x4 + 1)) ∧
 (¬ r59 = 0 →
  ((¬ x2 = 0 →
  sIB σ59 61 19 (σ59.1 61 19) (fun σ84 =>
  Rc σ84 (x2 + 1) (x4 + 1))) ∧
 (x2 = 0 →
  sIB σ59 61 19 ((100 * x3) + x4) (fun σ84 =>
  Rc σ84 (x2 + 1) (x4 + 1))))))))))))))))
def m_X9_meetingsOf_L24 (a1 : Int32) (Q : Int32 → St → Prop) (x3 : Int32) (K96 : St → Int32 → Prop) : Nat → St → Int32 → Int32 → Prop
  | 0 => fun _ _ _ => False
  | f + 1 => m_X9_meetingsOf_L24b a1 Q x3 K96 (m_X9_meetingsOf_L24 a1 Q x3 K96 f)
def m_X9_meetingsOf_J96 (a1 : Int32) (Q : Int32 → St → Prop) (K102 : St → Int32 → Prop) (Rc : St → Int32 → Int32 → Prop) (σ : St) (x2 : Int32) (x3 : Int32) : Prop :=
  Rc σ x2 (x3 + 1)
def m_X9_meetingsOf_L10b (a1 : Int32) (Q : Int32 → St → Prop) (K102 : St → Int32 → Prop) (Rc : St → Int32 → Int32 → Prop) (σ : St) (x2 : Int32) (x3 : Int32) : Prop :=
  m_X9_many σ 0 (fun r13 σ13 =>
  ((r13 ≤ x3 →
  K102 σ13 x2) ∧
 (¬ r13 ≤ x3 →
  bI (x3 + 1) (fun y22 =>
  ∃ f, m_X9_meetingsOf_L24 a1 Q x3 (fun σ x2 => m_X9_meetingsOf_J96 a1 Q K102 Rc σ x2 x3) f σ13 x2 y22))))
def m_X9_meetingsOf_L10 (a1 : Int32) (Q : Int32 → St → Prop) (K102 : St → Int32 → Prop) : Nat → St → Int32 → Int32 → Prop
  | 0 => fun _ _ _ => False
  | f + 1 => m_X9_meetingsOf_L10b a1 Q K102 (m_X9_meetingsOf_L10 a1 Q K102 f)
def m_X9_meetingsOf_J102 (a1 : Int32) (Q : Int32 → St → Prop) (σ : St) (x2 : Int32) : Prop :=
  Q x2 σ
def m_X9_meetingsOf (σ : St) (a1 : Int32) (Q : Int32 → St → Prop) : Prop :=
  sIB σ 61 19 (-9) (fun σ5 =>
  ∃ f, m_X9_meetingsOf_L10 a1 Q (fun σ x2 => m_X9_meetingsOf_J102 a1 Q σ x2) f σ5 0 0)
def m_X9_meetings (σ : St) (a1 : Int32) (a2 : Int32) (Q : Int32 → St → Prop) : Prop :=
  m_X9_isFour σ a1 (fun r1 σ1 =>
  ((¬ r1 = 0 →
  m_X9_in σ1 (a2.toInt64) 0 1 (fun r13 σ13 =>
  ((¬ r13 = 0 →
  m_X9_findHeld σ13 0 (fun σ24 =>
  m_X9_findBefore σ24 0 (fun σ29 =>
  m_X9_meetingsOf σ29 a1 (fun r34 σ34 =>
  ((¬ a2 = 0 →
  Q (σ34.1 61 19) σ34) ∧
 (a2 = 0 →
  Q r34 σ34)))))) ∧
 (r13 = 0 →
  Q (-2) σ13)))) ∧
 (r1 = 0 →
  Q (-1) σ1)))
def m_X9_findEdges_L18b (a1 : Int32) (Q : St → Prop) (x2 : Int32) (K104 : St → Prop) (Rc : St → Int32 → Prop) (σ : St) (x3 : Int32) : Prop :=
  ((4 ≤ x3 →
  K104 σ) ∧
 (¬ 4 ≤ x3 →
  m_X9_signAt σ a1 x2 (fun r26 σ26 =>
  ((2 ≤ r26 →
  K104 σ26) ∧
 (¬ 2 ≤ r26 →
  (vp_in x2 20 ∧
  (vp_in x2 20 ∧
  m_X9_has σ26 ((σ26.1 67 x2.toNatClampNeg) ||| (σ26.1 68 x2.toNatClampNeg)) x3 (fun r47 σ47 =>
  ((r47 = 0 →
  Rc σ47 (x3 + 1)) ∧
 (¬ r47 = 0 →
  (vp_in (σ47.1 61 20) 80 ∧
  sIB σ47 71 ((σ47.1 61 20).toNatClampNeg) x2 (fun σ62 =>
  (vp_in (σ62.1 61 20) 80 ∧
  sIB σ62 72 ((σ62.1 61 20).toNatClampNeg) x3 (fun σ72 =>
  m_X9_aboutAt σ72 a1 x2 (fun r84 σ84 =>
  (vp_in (σ72.1 61 20) 80 ∧
  sIB σ84 73 ((σ72.1 61 20).toNatClampNeg) r84 (fun σ87 =>
  sIB σ87 61 20 ((σ87.1 61 20) + 1) (fun σ95 =>
  Rc σ95 (x3 + 1)))))))))))))))))))
def m_X9_findEdges_L18 (a1 : Int32) (Q : St → Prop) (x2 : Int32) (K104 : St → Prop) : Nat → St → Int32 → Prop
  | 0 => fun _ _ => False
  | f + 1 => m_X9_findEdges_L18b a1 Q x2 K104 (m_X9_findEdges_L18 a1 Q x2 K104 f)
def m_X9_findEdges_J104 (a1 : Int32) (Q : St → Prop) (K110 : St → Prop) (Rc : St → Int32 → Prop) (σ : St) (x2 : Int32) : Prop :=
  Rc σ (x2 + 1)
def m_X9_findEdges_L7b (a1 : Int32) (Q : St → Prop) (K110 : St → Prop) (Rc : St → Int32 → Prop) (σ : St) (x2 : Int32) : Prop :=
  m_X9_many σ a1 (fun r10 σ10 =>
  ((r10 ≤ x2 →
  K110 σ10) ∧
 (¬ r10 ≤ x2 →
  ∃ f, m_X9_findEdges_L18 a1 Q x2 (fun σ => m_X9_findEdges_J104 a1 Q K110 Rc σ x2) f σ10 0)))
def m_X9_findEdges_L7 (a1 : Int32) (Q : St → Prop) (K110 : St → Prop) : Nat → St → Int32 → Prop
  | 0 => fun _ _ => False
  | f + 1 => m_X9_findEdges_L7b a1 Q K110 (m_X9_findEdges_L7 a1 Q K110 f)
def m_X9_findEdges_J110 (a1 : Int32) (Q : St → Prop) (σ : St) : Prop :=
  Q σ
def m_X9_findEdges (σ : St) (a1 : Int32) (Q : St → Prop) : Prop :=
  sIB σ 61 20 0 (fun σ2 =>
  ∃ f, m_X9_findEdges_L7 a1 Q (fun σ => m_X9_findEdges_J110 a1 Q σ) f σ2 0)
def m_X9_edges_L29b (a1 : Int32) (Q : Int32 → St → Prop) (K76 : St → Int32 → Prop) (Rc : St → Int32 → Int32 → Prop) (σ : St) (x2 : Int32) (x3 : Int32) : Prop :=
  (((σ.1 61 20) ≤ x3 →
  K76 σ x2) ∧
 (¬ (σ.1 61 20) ≤ x3 →
  ((a1 = 0 →
  bI (x2 + 1) (fun y69 =>
  Rc σ y69 (x3 + 1))) ∧
 (¬ a1 = 0 →
  (vp_in x3 80 ∧
  (vp_in x3 80 ∧
  ((¬ a1 = ((1 + (4 * (σ.1 72 x3.toNatClampNeg))) + (σ.1 73 x3.toNatClampNeg)) →
  bI (x2 + 0) (fun y69 =>
  Rc σ y69 (x3 + 1))) ∧
 (a1 = ((1 + (4 * (σ.1 72 x3.toNatClampNeg))) + (σ.1 73 x3.toNatClampNeg)) →
  bI (x2 + 1) (fun y69 =>
  Rc σ y69 (x3 + 1))))))))))
def m_X9_edges_L29 (a1 : Int32) (Q : Int32 → St → Prop) (K76 : St → Int32 → Prop) : Nat → St → Int32 → Int32 → Prop
  | 0 => fun _ _ _ => False
  | f + 1 => m_X9_edges_L29b a1 Q K76 (m_X9_edges_L29 a1 Q K76 f)
def m_X9_edges_J76 (a1 : Int32) (Q : Int32 → St → Prop) (σ : St) (x2 : Int32) : Prop :=
  Q x2 σ
def m_X9_edges (σ : St) (a1 : Int32) (Q : Int32 → St → Prop) : Prop :=
  m_X9_in σ (a1.toInt64) 0 16 (fun r6 σ6 =>
  ((¬ r6 = 0 →
  m_X9_findHeld σ6 0 (fun σ17 =>
  m_X9_findEdges σ17 0 (fun σ22 =>
  ∃ f, m_X9_edges_L29 a1 Q (fun σ x2 => m_X9_edges_J76 a1 Q σ x2) f σ22 0 0))) ∧
 (r6 = 0 →
  Q (-2) σ6)))
def m_X9_follows_J46 (a1 : Int32) (a2 : Int32) (Q : Int32 → St → Prop) (σ : St) (t0 : Int32) : Prop :=
  (vp_in a1 80 ∧
  (vp_in a2 80 ∧
  ((¬ (σ.1 73 a1.toNatClampNeg) = (σ.1 72 a2.toNatClampNeg) →
  Q 0 σ) ∧
 ((σ.1 73 a1.toNatClampNeg) = (σ.1 72 a2.toNatClampNeg) →
  ((¬ t0 = 0 →
  Q 0 σ) ∧
 (t0 = 0 →
  Q 1 σ))))))
def m_X9_follows_J45 (a1 : Int32) (a2 : Int32) (Q : Int32 → St → Prop) (σ : St) : Prop :=
  m_X9_follows_J46 a1 a2 Q σ 0
def m_X9_follows (σ : St) (a1 : Int32) (a2 : Int32) (Q : Int32 → St → Prop) : Prop :=
  (vp_in a1 80 ∧
  m_X9_signAt σ (σ.1 61 24) (σ.1 71 a1.toNatClampNeg) (fun r11 σ11 =>
  ((¬ r11 = 1 →
  m_X9_follows_J45 a1 a2 Q σ11) ∧
 (r11 = 1 →
  (vp_in a2 80 ∧
  (vp_in (σ11.1 71 a2.toNatClampNeg) 20 ∧
  (vp_in a2 80 ∧
  m_X9_has σ11 (σ11.1 68 (σ11.1 71 a2.toNatClampNeg).toNatClampNeg) (σ11.1 72 a2.toNatClampNeg) (fun r35 σ35 =>
  ((r35 = 0 →
  m_X9_follows_J45 a1 a2 Q σ35) ∧
 (¬ r35 = 0 →
  m_X9_follows_J46 a1 a2 Q σ35 1))))))))))
def m_X9_isUnlike_L5b (a1 : Int32) (a2 : Int32) (Q : Int32 → St → Prop) (K85 : St → Int32 → Prop) (Rc : St → Int32 → Int32 → Prop) (σ : St) (x3 : Int32) (x4 : Int32) : Prop :=
  ((a1 ≤ x4 →
  K85 σ x3) ∧
 (¬ a1 ≤ x4 →
  ((x3 = 0 →
  Rc σ 0 (x4 + 1)) ∧
 (¬ x3 = 0 →
  (vp_in x4 4 ∧
  (vp_in (σ.1 74 x4.toNatClampNeg) 80 ∧
  (vp_in a2 80 ∧
  (((σ.1 73 (σ.1 74 x4.toNatClampNeg).toNatClampNeg) = (σ.1 73 a2.toNatClampNeg) →
  Rc σ 0 (x4 + 1)) ∧
 (¬ (σ.1 73 (σ.1 74 x4.toNatClampNeg).toNatClampNeg) = (σ.1 73 a2.toNatClampNeg) →
  (vp_in x4 4 ∧
  (vp_in (σ.1 74 x4.toNatClampNeg) 80 ∧
  m_X9_threadAt σ (σ.1 61 24) (σ.1 71 (σ.1 74 x4.toNatClampNeg).toNatClampNeg) (fun r53 σ53 =>
  (vp_in a2 80 ∧
  m_X9_threadAt σ53 (σ53.1 61 24) (σ53.1 71 a2.toNatClampNeg) (fun r67 σ67 =>
  ((r53 = r67 →
  Rc σ67 0 (x4 + 1)) ∧
 (¬ r53 = r67 →
  Rc σ67 1 (x4 + 1)))))))))))))))))
def m_X9_isUnlike_L5 (a1 : Int32) (a2 : Int32) (Q : Int32 → St → Prop) (K85 : St → Int32 → Prop) : Nat → St → Int32 → Int32 → Prop
  | 0 => fun _ _ _ => False
  | f + 1 => m_X9_isUnlike_L5b a1 a2 Q K85 (m_X9_isUnlike_L5 a1 a2 Q K85 f)
def m_X9_isUnlike_J85 (a1 : Int32) (a2 : Int32) (Q : Int32 → St → Prop) (σ : St) (x3 : Int32) : Prop :=
  (narrow .boolean (.int x3) = .int x3 ∧ Q x3 σ)
def m_X9_isUnlike (σ : St) (a1 : Int32) (a2 : Int32) (Q : Int32 → St → Prop) : Prop :=
  ∃ f, m_X9_isUnlike_L5 a1 a2 Q (fun σ x3 => m_X9_isUnlike_J85 a1 a2 Q σ x3) f σ 1 0
def m_X9_areGated (σ : St) (a1 : Int32) (a2 : Int32) (Q : Int32 → St → Prop) : Prop :=
  (vp_in a1 20 ∧
  (vp_in a1 20 ∧
  (vp_in a2 20 ∧
  (vp_in a2 20 ∧
  bI (((σ.1 67 a1.toNatClampNeg) ||| (σ.1 68 a1.toNatClampNeg)) &&& ((σ.1 67 a2.toNatClampNeg) ||| (σ.1 68 a2.toNatClampNeg))) (fun y27 =>
  (vp_in a1 20 ∧
  (vp_in a2 20 ∧
  (((y27 &&& ((σ.1 67 a1.toNatClampNeg) ||| (σ.1 67 a2.toNatClampNeg))) = 0 →
  Q 0 σ) ∧
 (¬ (y27 &&& ((σ.1 67 a1.toNatClampNeg) ||| (σ.1 67 a2.toNatClampNeg))) = 0 →
  Q 1 σ)))))))))
def m_X9_takeRing_J108 (a1 : Int32) (Q : St → Prop) (x4 : Int32) (x5 : Int32) (K160 : St → Int32 → Int32 → Prop) (Rc : St → Int32 → Int32 → Int32 → Prop) (σ : St) (x3 : Int32) (x6 : Int32) (t0 : Int32) : Prop :=
  ((¬ x3 = 0 →
  Rc σ t0 1 (x6 + 1)) ∧
 (x3 = 0 →
  (vp_in x5 4 ∧
  (vp_in (σ.1 74 x5.toNatClampNeg) 80 ∧
  (vp_in (σ.1 71 (σ.1 74 x5.toNatClampNeg).toNatClampNeg) 20 ∧
  (vp_in x6 4 ∧
  (vp_in (σ.1 74 x6.toNatClampNeg) 80 ∧
  m_X9_has σ (σ.1 70 (σ.1 71 (σ.1 74 x5.toNatClampNeg).toNatClampNeg).toNatClampNeg) (σ.1 71 (σ.1 74 x6.toNatClampNeg).toNatClampNeg) (fun r142 σ142 =>
  ((r142 = 0 →
  Rc σ142 t0 0 (x6 + 1)) ∧
 (¬ r142 = 0 →
  Rc σ142 t0 1 (x6 + 1)))))))))))
def m_X9_takeRing_J103 (a1 : Int32) (Q : St → Prop) (x4 : Int32) (x5 : Int32) (K160 : St → Int32 → Int32 → Prop) (Rc : St → Int32 → Int32 → Int32 → Prop) (σ : St) (x3 : Int32) (x6 : Int32) : Prop :=
  m_X9_takeRing_J108 a1 Q x4 x5 K160 Rc σ x3 x6 1
def m_X9_takeRing_J107 (a1 : Int32) (Q : St → Prop) (x4 : Int32) (x5 : Int32) (K160 : St → Int32 → Int32 → Prop) (Rc : St → Int32 → Int32 → Int32 → Prop) (σ : St) (x3 : Int32) (x6 : Int32) : Prop :=
  m_X9_takeRing_J108 a1 Q x4 x5 K160 Rc σ x3 x6 0
def m_X9_takeRing_L55b (a1 : Int32) (Q : St → Prop) (x4 : Int32) (x5 : Int32) (K160 : St → Int32 → Int32 → Prop) (Rc : St → Int32 → Int32 → Int32 → Prop) (σ : St) (x2 : Int32) (x3 : Int32) (x6 : Int32) : Prop :=
  ((a1 ≤ x6 →
  K160 σ x2 x3) ∧
 (¬ a1 ≤ x6 →
  ((¬ x2 = 0 →
  m_X9_takeRing_J103 a1 Q x4 x5 K160 Rc σ x3 x6) ∧
 (x2 = 0 →
  ((x5 = x6 →
  m_X9_takeRing_J107 a1 Q x4 x5 K160 Rc σ x3 x6) ∧
 (¬ x5 = x6 →
  (vp_in x5 4 ∧
  (vp_in (σ.1 74 x5.toNatClampNeg) 80 ∧
  (vp_in x6 4 ∧
  (vp_in (σ.1 74 x6.toNatClampNeg) 80 ∧
  m_X9_areGated σ (σ.1 71 (σ.1 74 x5.toNatClampNeg).toNatClampNeg) (σ.1 71 (σ.1 74 x6.toNatClampNeg).toNatClampNeg) (fun r97 σ97 =>
  ((r97 = 0 →
  m_X9_takeRing_J107 a1 Q x4 x5 K160 Rc σ97 x3 x6) ∧
 (¬ r97 = 0 →
  m_X9_takeRing_J103 a1 Q x4 x5 K160 Rc σ97 x3 x6)))))))))))))
def m_X9_takeRing_L55 (a1 : Int32) (Q : St → Prop) (x4 : Int32) (x5 : Int32) (K160 : St → Int32 → Int32 → Prop) : Nat → St → Int32 → Int32 → Int32 → Prop
  | 0 => fun _ _ _ _ => False
  | f + 1 => m_X9_takeRing_L55b a1 Q x4 x5 K160 (m_X9_takeRing_L55 a1 Q x4 x5 K160 f)
def m_X9_takeRing_J160 (a1 : Int32) (Q : St → Prop) (K166 : St → Int32 → Int32 → Int32 → Prop) (Rc : St → Int32 → Int32 → Int32 → Int32 → Prop) (σ : St) (x2 : Int32) (x3 : Int32) (x4 : Int32) (x5 : Int32) : Prop :=
  Rc σ x2 x3 x4 (x5 + 1)
def m_X9_takeRing_J50 (a1 : Int32) (Q : St → Prop) (K166 : St → Int32 → Int32 → Int32 → Prop) (Rc : St → Int32 → Int32 → Int32 → Int32 → Prop) (σ : St) (x2 : Int32) (x3 : Int32) (x5 : Int32) (t0 : Int32) : Prop :=
  ∃ f, m_X9_takeRing_L55 a1 Q t0 x5 (fun σ x2 x3 => m_X9_takeRing_J160 a1 Q K166 Rc σ x2 x3 t0 x5) f σ x2 x3 0
def m_X9_takeRing_L10b (a1 : Int32) (Q : St → Prop) (K166 : St → Int32 → Int32 → Int32 → Prop) (Rc : St → Int32 → Int32 → Int32 → Int32 → Prop) (σ : St) (x2 : Int32) (x3 : Int32) (x4 : Int32) (x5 : Int32) : Prop :=
  ((a1 ≤ x5 →
  K166 σ x2 x3 x4) ∧
 (¬ a1 ≤ x5 →
  (vp_in x5 4 ∧
  (vp_in (σ.1 74 x5.toNatClampNeg) 80 ∧
  (vp_in x4 4 ∧
  (vp_in (σ.1 74 x4.toNatClampNeg) 80 ∧
  (((σ.1 71 (σ.1 74 x4.toNatClampNeg).toNatClampNeg) ≤ (σ.1 71 (σ.1 74 x5.toNatClampNeg).toNatClampNeg) →
  m_X9_takeRing_J50 a1 Q K166 Rc σ x2 x3 x5 x4) ∧
 (¬ (σ.1 71 (σ.1 74 x4.toNatClampNeg).toNatClampNeg) ≤ (σ.1 71 (σ.1 74 x5.toNatClampNeg).toNatClampNeg) →
  m_X9_takeRing_J50 a1 Q K166 Rc σ x2 x3 x5 x5))))))))
def m_X9_takeRing_L10 (a1 : Int32) (Q : St → Prop) (K166 : St → Int32 → Int32 → Int32 → Prop) : Nat → St → Int32 → Int32 → Int32 → Int32 → Prop
  | 0 => fun _ _ _ _ _ => False
  | f + 1 => m_X9_takeRing_L10b a1 Q K166 (m_X9_takeRing_L10 a1 Q K166 f)
def m_X9_takeRing_L237b (a1 : Int32) (Q : St → Prop) (x4 : Int32) (K278 : St → Int64 → Prop) (Rc : St → Int64 → Int32 → Prop) (σ : St) (x5 : Int64) (x7 : Int32) : Prop :=
  ((a1 ≤ x7 →
  K278 σ x5) ∧
 (¬ a1 ≤ x7 →
  (¬ a1 = 0 ∧
  (vp_in ((x4 + x7) - (x4 + x7) / a1 * a1) 4 ∧
  (vp_in (σ.1 74 ((x4 + x7) - (x4 + x7) / a1 * a1).toNatClampNeg) 80 ∧
  bL (((100 * x5) + ((σ.1 71 (σ.1 74 ((x4 + x7) - (x4 + x7) / a1 * a1).toNatClampNeg).toNatClampNeg).toInt64)) + 1) (fun y270 =>
  Rc σ y270 (x7 + 1)))))))
def m_X9_takeRing_L237 (a1 : Int32) (Q : St → Prop) (x4 : Int32) (K278 : St → Int64 → Prop) : Nat → St → Int64 → Int32 → Prop
  | 0 => fun _ _ _ => False
  | f + 1 => m_X9_takeRing_L237b a1 Q x4 K278 (m_X9_takeRing_L237 a1 Q x4 K278 f)
def m_X9_takeRing_J278 (a1 : Int32) (Q : St → Prop) (σ : St) (x5 : Int64) : Prop :=
  (((lg_cmp (σ.2 61 30) (-9)) = 0 →
  sLB σ 61 30 x5 (fun σ309 =>
  Q σ309)) ∧
 (¬ (lg_cmp (σ.2 61 30) (-9)) = 0 →
  ((0 ≤ (lg_cmp x5 (σ.2 61 30)) →
  sLB σ 61 30 (σ.2 61 30) (fun σ309 =>
  Q σ309)) ∧
 (¬ 0 ≤ (lg_cmp x5 (σ.2 61 30)) →
  sLB σ 61 30 x5 (fun σ309 =>
  Q σ309)))))
def m_X9_takeRing_J210 (a1 : Int32) (Q : St → Prop) (σ : St) (x2 : Int32) (x3 : Int32) (x4 : Int32) (t1 : Int32) (t2 : Int32) (t3 : Int32) : Prop :=
  (vp_in t1 5 ∧
  sIB σ 77 (t1.toNatClampNeg) (t2 + t3) (fun σ211 =>
  ((¬ x2 = 0 →
  Q σ211) ∧
 (x2 = 0 →
  ((x3 = 0 →
  (vp_in a1 5 ∧
  (vp_in a1 5 ∧
  sIB σ211 78 (a1.toNatClampNeg) ((σ211.1 78 a1.toNatClampNeg) + 1) (fun σ230 =>
  ∃ f, m_X9_takeRing_L237 a1 Q x4 (fun σ x5 => m_X9_takeRing_J278 a1 Q σ x5) f σ230 0 0)))) ∧
 (¬ x3 = 0 →
  Q σ211))))))
def m_X9_takeRing_J192 (a1 : Int32) (Q : St → Prop) (σ : St) (x2 : Int32) (x3 : Int32) (x4 : Int32) (t1 : Int32) (t2 : Int32) (t3 : Int32) : Prop :=
  (vp_in t1 5 ∧
  sIB σ 76 (t1.toNatClampNeg) (t2 + t3) (fun σ193 =>
  (vp_in a1 5 ∧
  ((x3 = 0 →
  m_X9_takeRing_J210 a1 Q σ193 x2 x3 x4 a1 (σ193.1 77 a1.toNatClampNeg) 0) ∧
 (¬ x3 = 0 →
  m_X9_takeRing_J210 a1 Q σ193 x2 x3 x4 a1 (σ193.1 77 a1.toNatClampNeg) 1)))))
def m_X9_takeRing_J166 (a1 : Int32) (Q : St → Prop) (σ : St) (x2 : Int32) (x3 : Int32) (x4 : Int32) : Prop :=
  (vp_in a1 5 ∧
  (vp_in a1 5 ∧
  sIB σ 75 (a1.toNatClampNeg) ((σ.1 75 a1.toNatClampNeg) + 1) (fun σ175 =>
  (vp_in a1 5 ∧
  ((x2 = 0 →
  m_X9_takeRing_J192 a1 Q σ175 x2 x3 x4 a1 (σ175.1 76 a1.toNatClampNeg) 0) ∧
 (¬ x2 = 0 →
  m_X9_takeRing_J192 a1 Q σ175 x2 x3 x4 a1 (σ175.1 76 a1.toNatClampNeg) 1))))))
def m_X9_takeRing (σ : St) (a1 : Int32) (Q : St → Prop) : Prop :=
  ∃ f, m_X9_takeRing_L10 a1 Q (fun σ x2 x3 x4 => m_X9_takeRing_J166 a1 Q σ x2 x3 x4) f σ 0 0 0 0
def m_X9_close (σ : St) (a1 : Int32) (Q : St → Prop) : Prop :=
  (vp_in (a1 - 1) 4 ∧
  m_X9_follows σ (σ.1 74 (a1 - 1).toNatClampNeg) (σ.1 74 ((0 : Int32).toNatClampNeg)) (fun r15 σ15 =>
  ((r15 = 0 →
  Q σ15) ∧
 (¬ r15 = 0 →
  m_X9_takeRing σ15 a1 (fun σ23 =>
  Q σ23)))))
def m_X9_goesOn (σ : St) (a1 : Int32) (a2 : Int32) (Q : Int32 → St → Prop) : Prop :=
  ((a2 ≤ (σ.1 74 ((0 : Int32).toNatClampNeg)) →
  Q 0 σ) ∧
 (¬ a2 ≤ (σ.1 74 ((0 : Int32).toNatClampNeg)) →
  (vp_in (a1 - 1) 4 ∧
  m_X9_follows σ (σ.1 74 (a1 - 1).toNatClampNeg) a2 (fun r20 σ20 =>
  ((r20 = 0 →
  Q 0 σ20) ∧
 (¬ r20 = 0 →
  m_X9_isUnlike σ20 a1 a2 (fun r29 σ29 =>
  ((r29 = 0 →
  Q 0 σ29) ∧
 (¬ r29 = 0 →
  Q 1 σ29)))))))))
def m_X9_findLonger_L33b (Q : St → Prop) (x1 : Int32) (K68 : St → Prop) (Rc : St → Int32 → Prop) (σ : St) (x2 : Int32) : Prop :=
  (((σ.1 61 20) ≤ x2 →
  K68 σ) ∧
 (¬ (σ.1 61 20) ≤ x2 →
  m_X9_goesOn σ 3 x2 (fun r44 σ44 =>
  ((r44 = 0 →
  Rc σ44 (x2 + 1)) ∧
 (¬ r44 = 0 →
  (vp_in 3 4 ∧
  sIB σ44 74 ((3 : Int32).toNatClampNeg) x2 (fun σ56 =>
  m_X9_close σ56 4 (fun σ59 =>
  Rc σ59 (x2 + 1)))))))))
def m_X9_findLonger_L33 (Q : St → Prop) (x1 : Int32) (K68 : St → Prop) : Nat → St → Int32 → Prop
  | 0 => fun _ _ => False
  | f + 1 => m_X9_findLonger_L33b Q x1 K68 (m_X9_findLonger_L33 Q x1 K68 f)
def m_X9_findLonger_J68 (Q : St → Prop) (K74 : St → Prop) (Rc : St → Int32 → Prop) (σ : St) (x1 : Int32) : Prop :=
  Rc σ (x1 + 1)
def m_X9_findLonger_L2b (Q : St → Prop) (K74 : St → Prop) (Rc : St → Int32 → Prop) (σ : St) (x1 : Int32) : Prop :=
  (((σ.1 61 20) ≤ x1 →
  K74 σ) ∧
 (¬ (σ.1 61 20) ≤ x1 →
  m_X9_goesOn σ 2 x1 (fun r13 σ13 =>
  ((r13 = 0 →
  Rc σ13 (x1 + 1)) ∧
 (¬ r13 = 0 →
  (vp_in 2 4 ∧
  sIB σ13 74 ((2 : Int32).toNatClampNeg) x1 (fun σ25 =>
  m_X9_close σ25 3 (fun σ28 =>
  ∃ f, m_X9_findLonger_L33 Q x1 (fun σ => m_X9_findLonger_J68 Q K74 Rc σ x1) f σ28 0))))))))
def m_X9_findLonger_L2 (Q : St → Prop) (K74 : St → Prop) : Nat → St → Int32 → Prop
  | 0 => fun _ _ => False
  | f + 1 => m_X9_findLonger_L2b Q K74 (m_X9_findLonger_L2 Q K74 f)
def m_X9_findLonger_J74 (Q : St → Prop) (σ : St) : Prop :=
  Q σ
def m_X9_findLonger (σ : St) (Q : St → Prop) : Prop :=
  ∃ f, m_X9_findLonger_L2 Q (fun σ => m_X9_findLonger_J74 Q σ) f σ 0
def m_X9_findRings_L29b (a1 : Int32) (Q : St → Prop) (K68 : St → Prop) (Rc : St → Int32 → Prop) (σ : St) (x2 : Int32) : Prop :=
  ((5 ≤ x2 →
  K68 σ) ∧
 (¬ 5 ≤ x2 →
  (vp_in x2 5 ∧
  sIB σ 75 (x2.toNatClampNeg) 0 (fun σ40 =>
  (vp_in x2 5 ∧
  sIB σ40 76 (x2.toNatClampNeg) 0 (fun σ47 =>
  (vp_in x2 5 ∧
  sIB σ47 77 (x2.toNatClampNeg) 0 (fun σ54 =>
  (vp_in x2 5 ∧
  sIB σ54 78 (x2.toNatClampNeg) 0 (fun σ61 =>
  Rc σ61 (x2 + 1)))))))))))
def m_X9_findRings_L29 (a1 : Int32) (Q : St → Prop) (K68 : St → Prop) : Nat → St → Int32 → Prop
  | 0 => fun _ _ => False
  | f + 1 => m_X9_findRings_L29b a1 Q K68 (m_X9_findRings_L29 a1 Q K68 f)
def m_X9_findRings_L82b (a1 : Int32) (Q : St → Prop) (x2 : Int32) (K128 : St → Prop) (Rc : St → Int32 → Prop) (σ : St) (x3 : Int32) : Prop :=
  (((σ.1 61 20) ≤ x3 →
  K128 σ) ∧
 (¬ (σ.1 61 20) ≤ x3 →
  (vp_in 0 4 ∧
  sIB σ 74 ((0 : Int32).toNatClampNeg) x2 (fun σ96 =>
  m_X9_goesOn σ96 1 x3 (fun r100 σ100 =>
  ((r100 = 0 →
  Rc σ100 (x3 + 1)) ∧
 (¬ r100 = 0 →
  (vp_in 1 4 ∧
  sIB σ100 74 ((1 : Int32).toNatClampNeg) x3 (fun σ112 =>
  m_X9_close σ112 2 (fun σ115 =>
  m_X9_findLonger σ115  (fun σ119 =>
  Rc σ119 (x3 + 1))))))))))))
def m_X9_findRings_L82 (a1 : Int32) (Q : St → Prop) (x2 : Int32) (K128 : St → Prop) : Nat → St → Int32 → Prop
  | 0 => fun _ _ => False
  | f + 1 => m_X9_findRings_L82b a1 Q x2 K128 (m_X9_findRings_L82 a1 Q x2 K128 f)
def m_X9_findRings_J128 (a1 : Int32) (Q : St → Prop) (K134 : St → Prop) (Rc : St → Int32 → Prop) (σ : St) (x2 : Int32) : Prop :=
  Rc σ (x2 + 1)
def m_X9_findRings_L70b (a1 : Int32) (Q : St → Prop) (K134 : St → Prop) (Rc : St → Int32 → Prop) (σ : St) (x2 : Int32) : Prop :=
  (((σ.1 61 20) ≤ x2 →
  K134 σ) ∧
 (¬ (σ.1 61 20) ≤ x2 →
  bI (x2 + 1) (fun y81 =>
  ∃ f, m_X9_findRings_L82 a1 Q x2 (fun σ => m_X9_findRings_J128 a1 Q K134 Rc σ x2) f σ y81)))
def m_X9_findRings_L70 (a1 : Int32) (Q : St → Prop) (K134 : St → Prop) : Nat → St → Int32 → Prop
  | 0 => fun _ _ => False
  | f + 1 => m_X9_findRings_L70b a1 Q K134 (m_X9_findRings_L70 a1 Q K134 f)
def m_X9_findRings_J134 (a1 : Int32) (Q : St → Prop) (σ : St) : Prop :=
  Q σ
def m_X9_findRings_J68 (a1 : Int32) (Q : St → Prop) (σ : St) : Prop :=
  ∃ f, m_X9_findRings_L70 a1 Q (fun σ => m_X9_findRings_J134 a1 Q σ) f σ 0
def m_X9_findRings (σ : St) (a1 : Int32) (Q : St → Prop) : Prop :=
  m_X9_findHeld σ a1 (fun σ2 =>
  m_X9_findBefore σ2 a1 (fun σ7 =>
  m_X9_findEdges σ7 a1 (fun σ12 =>
  sIB σ12 61 24 a1 (fun σ17 =>
  sLB σ17 61 30 (-9) (fun σ24 =>
  ∃ f, m_X9_findRings_L29 a1 Q (fun σ => m_X9_findRings_J68 a1 Q σ) f σ24 0)))))
def m_X9_rings (σ : St) (a1 : Int32) (a2 : Int32) (Q : Int32 → St → Prop) : Prop :=
  m_X9_in σ (a1.toInt64) 2 4 (fun r8 σ8 =>
  ((r8 = 0 →
  Q (-2) σ8) ∧
 (¬ r8 = 0 →
  m_X9_in σ8 (a2.toInt64) 0 3 (fun r20 σ20 =>
  ((¬ r20 = 0 →
  m_X9_findRings σ20 0 (fun σ31 =>
  ((¬ a2 = 0 →
  ((¬ a2 = 1 →
  ((¬ a2 = 2 →
  (vp_in a1 5 ∧
  Q (σ31.1 78 a1.toNatClampNeg) σ31)) ∧
 (a2 = 2 →
  (vp_in a1 5 ∧
  Q (σ31.1 77 a1.toNatClampNeg) σ31)))) ∧
 (a2 = 1 →
  (vp_in a1 5 ∧
  Q (σ31.1 76 a1.toNatClampNeg) σ31)))) ∧
 (a2 = 0 →
  (vp_in a1 5 ∧
  Q (σ31.1 75 a1.toNatClampNeg) σ31))))) ∧
 (r20 = 0 →
  Q (-2) σ20))))))
def m_X9_first (σ : St) (Q : Int32 → St → Prop) : Prop :=
  m_X9_findRings σ 0 (fun σ2 =>
  Q ((σ2.2 61 30).toInt32) σ2)
def m_X9_feasibleOn (σ : St) (a1 : Int32) (Q : Int32 → St → Prop) : Prop :=
  m_X9_findRings σ a1 (fun σ2 =>
  Q (((σ2.1 78 ((2 : Int32).toNatClampNeg)) + (σ2.1 78 ((3 : Int32).toNatClampNeg))) + (σ2.1 78 ((4 : Int32).toNatClampNeg))) σ2)
def m_X9_isSo (σ : St) (a1 : Int32) (a2 : Int32) (a3 : Int32) (Q : Int32 → St → Prop) : Prop :=
  m_X9_findHeld σ 1 (fun σ2 =>
  ((a1 = 3 →
  m_X9_many σ2 1 (fun r46 σ46 =>
  m_X9_watchCell σ46 1 ((a2 / 10) - (a2 / 10) / 4 * 4) r46 15 0 (fun σ52 =>
  ((¬ (a2 - a2 / 10 * 10) = 0 →
  Q 0 σ52) ∧
 ((a2 - a2 / 10 * 10) = 0 →
  m_X9_isFour σ52 (a2 / 10) (fun r66 σ66 =>
  ((r66 = 0 →
  Q 0 σ66) ∧
 (¬ r66 = 0 →
  ((¬ (σ66.1 61 13) = a3 →
  Q 0 σ66) ∧
 ((σ66.1 61 13) = a3 →
  Q 1 σ66)))))))))) ∧
 (a1 = 4 →
  ((¬ (a2 - a2 / 10 * 10) = 0 →
  Q 0 σ2) ∧
 ((a2 - a2 / 10 * 10) = 0 →
  m_X9_isFour σ2 (a2 / 10) (fun r97 σ97 =>
  ((r97 = 0 →
  Q 0 σ97) ∧
 (¬ r97 = 0 →
  ((2 ≤ a3 →
  Q 0 σ97) ∧
 (¬ 2 ≤ a3 →
  m_X9_flaggedOn σ97 1 15 (fun r112 σ112 =>
  m_X9_has σ112 r112 (a2 / 10) (fun r119 σ119 =>
  ((¬ a3 = 1 →
  ((¬ r119 = 0 →
  Q 0 σ119) ∧
 (r119 = 0 →
  Q 1 σ119))) ∧
 (a3 = 1 →
  ((¬ r119 = 1 →
  Q 0 σ119) ∧
 (r119 = 1 →
  Q 1 σ119)))))))))))))) ∧
 (a1 = 5 →
  ((¬ a2 = 0 →
  Q 0 σ2) ∧
 (a2 = 0 →
  m_X9_feasibleOn σ2 1 (fun r147 σ147 =>
  ((r147 < a3 →
  Q 0 σ147) ∧
 (¬ r147 < a3 →
  Q 1 σ147)))))) ∧
 (a1 = 6 →
  m_X9_isStep σ2 1 a2 (fun r163 σ163 =>
  ((r163 = 0 →
  Q 0 σ163) ∧
 (¬ r163 = 0 →
  m_X9_isFour σ163 a3 (fun r170 σ170 =>
  ((r170 = 0 →
  Q 0 σ170) ∧
 (¬ r170 = 0 →
  (vp_in a2 20 ∧
  (vp_in a2 20 ∧
  m_X9_has σ170 ((σ170.1 67 a2.toNatClampNeg) ||| (σ170.1 68 a2.toNatClampNeg)) a3 (fun r190 σ190 =>
  ((r190 = 0 →
  Q 0 σ190) ∧
 (¬ r190 = 0 →
  Q 1 σ190)))))))))))) ∧
 (¬ a1 = 3 ∧ ¬ a1 = 4 ∧ ¬ a1 = 5 ∧ ¬ a1 = 6 →
  Q 0 σ2)))
def m_X9_tryThing_L76b (a1 : Int32) (a2 : Int32) (a3 : Int32) (Q : Int32 → St → Prop) (K106 : St → Prop) (Rc : St → Int32 → Prop) (σ : St) (x6 : Int32) : Prop :=
  ((21 ≤ x6 →
  K106 σ) ∧
 (¬ 21 ≤ x6 →
  (vp_in (21 + x6) 42 ∧
  (vp_in x6 21 ∧
  sIB σ 79 (x6.toNatClampNeg) (σ.1 64 (21 + x6).toNatClampNeg) (fun σ99 =>
  Rc σ99 (x6 + 1))))))
def m_X9_tryThing_L76 (a1 : Int32) (a2 : Int32) (a3 : Int32) (Q : Int32 → St → Prop) (K106 : St → Prop) : Nat → St → Int32 → Prop
  | 0 => fun _ _ => False
  | f + 1 => m_X9_tryThing_L76b a1 a2 a3 Q K106 (m_X9_tryThing_L76 a1 a2 a3 Q K106 f)
def m_X9_tryThing_L136b (a1 : Int32) (a2 : Int32) (a3 : Int32) (Q : Int32 → St → Prop) (x6 : Int32) (K171 : St → Prop) (Rc : St → Int32 → Prop) (σ : St) (x7 : Int32) : Prop :=
  ((21 ≤ x7 →
  K171 σ) ∧
 (¬ 21 ≤ x7 →
  ((¬ x6 = 0 →
  K171 σ) ∧
 (x6 = 0 →
  (vp_in x7 21 ∧
  (vp_in (21 + x7) 42 ∧
  sIB σ 64 ((21 + x7).toNatClampNeg) (σ.1 79 x7.toNatClampNeg) (fun σ164 =>
  Rc σ164 (x7 + 1))))))))
def m_X9_tryThing_L136 (a1 : Int32) (a2 : Int32) (a3 : Int32) (Q : Int32 → St → Prop) (x6 : Int32) (K171 : St → Prop) : Nat → St → Int32 → Prop
  | 0 => fun _ _ => False
  | f + 1 => m_X9_tryThing_L136b a1 a2 a3 Q x6 K171 (m_X9_tryThing_L136 a1 a2 a3 Q x6 K171 f)
def m_X9_tryThing_J171 (a1 : Int32) (a2 : Int32) (a3 : Int32) (Q : Int32 → St → Prop) (σ : St) (x6 : Int32) : Prop :=
  (narrow .boolean (.int x6) = .int x6 ∧ Q x6 σ)
def m_X9_tryThing_J126 (a1 : Int32) (a2 : Int32) (a3 : Int32) (Q : Int32 → St → Prop) (σ : St) : Prop :=
  m_X9_isTrace σ 1 (fun r128 σ128 =>
  ∃ f, m_X9_tryThing_L136 a1 a2 a3 Q r128 (fun σ => m_X9_tryThing_J171 a1 a2 a3 Q σ r128) f σ128 0)
def m_X9_tryThing_J106 (a1 : Int32) (a2 : Int32) (a3 : Int32) (Q : Int32 → St → Prop) (σ : St) : Prop :=
  ((¬ a1 = 1 →
  m_X9_swapOn σ 1 a2 (fun σ123 =>
  m_X9_tryThing_J126 a1 a2 a3 Q σ123)) ∧
 (a1 = 1 →
  m_X9_dropOn σ 1 a2 (fun σ114 =>
  m_X9_tryThing_J126 a1 a2 a3 Q σ114)))
def m_X9_tryThing_J64 (a1 : Int32) (a2 : Int32) (a3 : Int32) (Q : Int32 → St → Prop) (σ : St) (t0 : Int32) : Prop :=
  ((¬ t0 = 0 →
  ∃ f, m_X9_tryThing_L76 a1 a2 a3 Q (fun σ => m_X9_tryThing_J106 a1 a2 a3 Q σ) f σ 0) ∧
 (t0 = 0 →
  Q 0 σ))
def m_X9_tryThing_J63 (a1 : Int32) (a2 : Int32) (a3 : Int32) (Q : Int32 → St → Prop) (σ : St) : Prop :=
  m_X9_tryThing_J64 a1 a2 a3 Q σ 0
def m_X9_tryThing_J59 (a1 : Int32) (a2 : Int32) (a3 : Int32) (Q : Int32 → St → Prop) (σ : St) : Prop :=
  m_X9_tryThing_J64 a1 a2 a3 Q σ 1
def m_X9_tryThing_J15 (a1 : Int32) (a2 : Int32) (a3 : Int32) (Q : Int32 → St → Prop) (σ : St) (t0 : Int32) : Prop :=
  ((¬ t0 = 0 →
  ((¬ a3 = 0 →
  m_X9_tryThing_J63 a1 a2 a3 Q σ) ∧
 (a3 = 0 →
  m_X9_isStep σ 1 a2 (fun r37 σ37 =>
  ((r37 = 0 →
  m_X9_tryThing_J63 a1 a2 a3 Q σ37) ∧
 (¬ r37 = 0 →
  ((a1 = 1 →
  m_X9_tryThing_J59 a1 a2 a3 Q σ37) ∧
 (¬ a1 = 1 →
  m_X9_many σ37 1 (fun r51 σ51 =>
  (((r51 - 1) ≤ a2 →
  m_X9_tryThing_J63 a1 a2 a3 Q σ51) ∧
 (¬ (r51 - 1) ≤ a2 →
  m_X9_tryThing_J59 a1 a2 a3 Q σ51))))))))))) ∧
 (t0 = 0 →
  m_X9_isSo σ a1 a2 a3 (fun r26 σ26 =>
  (narrow .boolean (.int r26) = .int r26 ∧ Q r26 σ26))))
def m_X9_tryThing_J10 (a1 : Int32) (a2 : Int32) (a3 : Int32) (Q : Int32 → St → Prop) (σ : St) : Prop :=
  m_X9_tryThing_J15 a1 a2 a3 Q σ 1
def m_X9_tryThing (σ : St) (a1 : Int32) (a2 : Int32) (a3 : Int32) (Q : Int32 → St → Prop) : Prop :=
  ((a1 = 1 →
  m_X9_tryThing_J10 a1 a2 a3 Q σ) ∧
 (¬ a1 = 1 →
  ((¬ a1 = 2 →
  m_X9_tryThing_J15 a1 a2 a3 Q σ 0) ∧
 (a1 = 2 →
  m_X9_tryThing_J10 a1 a2 a3 Q σ))))
def m_X9_tenThousandTo_L4b (a0 : Int32) (Q : Int64 → St → Prop) (K21 : St → Int64 → Prop) (Rc : St → Int64 → Int32 → Prop) (σ : St) (x1 : Int64) (x3 : Int32) : Prop :=
  ((a0 ≤ x3 →
  K21 σ x1) ∧
 (¬ a0 ≤ x3 →
  bL (x1 * 10000) (fun y14 =>
  Rc σ y14 (x3 + 1))))
def m_X9_tenThousandTo_L4 (a0 : Int32) (Q : Int64 → St → Prop) (K21 : St → Int64 → Prop) : Nat → St → Int64 → Int32 → Prop
  | 0 => fun _ _ _ => False
  | f + 1 => m_X9_tenThousandTo_L4b a0 Q K21 (m_X9_tenThousandTo_L4 a0 Q K21 f)
def m_X9_tenThousandTo_J21 (a0 : Int32) (Q : Int64 → St → Prop) (σ : St) (x1 : Int64) : Prop :=
  Q x1 σ
def m_X9_tenThousandTo (σ : St) (a0 : Int32) (Q : Int64 → St → Prop) : Prop :=
  ∃ f, m_X9_tenThousandTo_L4 a0 Q (fun σ x1 => m_X9_tenThousandTo_J21 a0 Q σ x1) f σ 1 0
def m_X9_judge_L38b (a1 : Int32) (a2 : Int64) (Q : Int32 → St → Prop) (K88 : St → Int32 → Prop) (K97 : St → Prop) (Rc : St → Int32 → Prop) (σ : St) (x4 : Int32) : Prop :=
  ((a1 ≤ x4 →
  K97 σ) ∧
 (¬ a1 ≤ x4 →
  m_X9_tenThousandTo σ ((a1 - 1) - x4) (fun r51 σ51 =>
  (¬ r51 = 0 ∧
  bI (((a2 / r51) - (a2 / r51) / 10000 * 10000).toInt32) (fun y60 =>
  m_X9_tryThing σ51 (y60 / 1000) ((y60 / 10) - (y60 / 10) / 100 * 100) (y60 - y60 / 10 * 10) (fun r82 σ82 =>
  ((¬ r82 = 0 →
  Rc σ82 (x4 + 1)) ∧
 (r82 = 0 →
  K88 σ82 x4))))))))
def m_X9_judge_L38 (a1 : Int32) (a2 : Int64) (Q : Int32 → St → Prop) (K88 : St → Int32 → Prop) (K97 : St → Prop) : Nat → St → Int32 → Prop
  | 0 => fun _ _ => False
  | f + 1 => m_X9_judge_L38b a1 a2 Q K88 K97 (m_X9_judge_L38 a1 a2 Q K88 K97 f)
def m_X9_judge_J88 (a1 : Int32) (a2 : Int64) (Q : Int32 → St → Prop) (σ : St) (x4 : Int32) : Prop :=
  Q x4 σ
def m_X9_judge_J97 (a1 : Int32) (a2 : Int64) (Q : Int32 → St → Prop) (σ : St) : Prop :=
  Q (-9) σ
def m_X9_judge (σ : St) (a1 : Int32) (a2 : Int64) (Q : Int32 → St → Prop) : Prop :=
  m_X9_in σ (a1.toInt64) 1 4 (fun r6 σ6 =>
  ((r6 = 0 →
  Q (-2) σ6) ∧
 (¬ r6 = 0 →
  m_X9_tenThousandTo σ6 a1 (fun r15 σ15 =>
  m_X9_in σ15 a2 0 (r15 - 1) (fun r20 σ20 =>
  ((¬ r20 = 0 →
  m_X9_lay σ20 1 0 (fun σ32 =>
  ∃ f, m_X9_judge_L38 a1 a2 Q (fun σ x4 => m_X9_judge_J88 a1 a2 Q σ x4) (fun σ => m_X9_judge_J97 a1 a2 Q σ) f σ32 0)) ∧
 (r20 = 0 →
  Q (-2) σ20)))))))
def m_X9_see (σ : St) (a1 : Int32) (a2 : Int32) (a3 : Int32) (Q : Int32 → St → Prop) : Prop :=
  m_X9_isFour σ a1 (fun r1 σ1 =>
  ((¬ r1 = 0 →
  m_X9_isFour σ1 a2 (fun r10 σ10 =>
  ((r10 = 0 →
  Q (-2) σ10) ∧
 (¬ r10 = 0 →
  m_X9_in σ10 (a3.toInt64) 0 1 (fun r20 σ20 =>
  ((¬ r20 = 0 →
  ((¬ (σ20.1 61 32) = 6 →
  (vp_in (σ20.1 61 32) 6 ∧
  sIB σ20 80 ((σ20.1 61 32).toNatClampNeg) a1 (fun σ50 =>
  (vp_in (σ50.1 61 32) 6 ∧
  sIB σ50 81 ((σ50.1 61 32).toNatClampNeg) a2 (fun σ60 =>
  (vp_in (σ60.1 61 32) 6 ∧
  sIB σ60 82 ((σ60.1 61 32).toNatClampNeg) a3 (fun σ70 =>
  sIB σ70 61 32 ((σ70.1 61 32) + 1) (fun σ78 =>
  Q (σ78.1 61 32) σ78)))))))) ∧
 ((σ20.1 61 32) = 6 →
  Q (-4) σ20))) ∧
 (r20 = 0 →
  Q (-2) σ20))))))) ∧
 (r1 = 0 →
  Q (-1) σ1)))
def m_X9_unsee (σ : St) (Q : Int32 → St → Prop) : Prop :=
  bI (σ.1 61 32) (fun y4 =>
  sIB σ 61 32 0 (fun σ7 =>
  Q y4 σ7))
def m_X9_which_J120 (a1 : Int32) (Q : Int32 → St → Prop) (x2 : Int32) (x3 : Int32) (x4 : Int32) (K136 : St → Int32 → Prop) (Rc : St → Int32 → Int32 → Prop) (σ : St) (x6 : Int32) (t0 : Int32) (t1 : Int32) : Prop :=
  ((¬ t0 = t1 →
  Rc σ 0 (x6 + 1)) ∧
 (t0 = t1 →
  Rc σ 1 (x6 + 1)))
def m_X9_which_J104 (a1 : Int32) (Q : Int32 → St → Prop) (x2 : Int32) (x3 : Int32) (x4 : Int32) (K136 : St → Int32 → Prop) (Rc : St → Int32 → Int32 → Prop) (σ : St) (x6 : Int32) (t0 : Int32) : Prop :=
  (vp_in x6 6 ∧
  ((¬ (σ.1 82 x6.toNatClampNeg) = 1 →
  m_X9_which_J120 a1 Q x2 x3 x4 K136 Rc σ x6 t0 0) ∧
 ((σ.1 82 x6.toNatClampNeg) = 1 →
  m_X9_which_J120 a1 Q x2 x3 x4 K136 Rc σ x6 t0 1)))
def m_X9_which_L48b (a1 : Int32) (Q : Int32 → St → Prop) (x2 : Int32) (x3 : Int32) (x4 : Int32) (K136 : St → Int32 → Prop) (Rc : St → Int32 → Int32 → Prop) (σ : St) (x5 : Int32) (x6 : Int32) : Prop :=
  (((σ.1 61 32) ≤ x6 →
  K136 σ x5) ∧
 (¬ (σ.1 61 32) ≤ x6 →
  ((x5 = 0 →
  K136 σ x5) ∧
 (¬ x5 = 0 →
  (vp_in x6 6 ∧
  m_X9_many σ 0 (fun r73 σ73 =>
  m_X9_watchCell σ73 0 (σ.1 80 x6.toNatClampNeg) r73 15 ((1 : Int32) <<< (x4 &&& 31)) (fun σ82 =>
  (vp_in x6 6 ∧
  ((¬ (σ82.1 61 13) = (σ82.1 81 x6.toNatClampNeg) →
  m_X9_which_J104 a1 Q x2 x3 x4 K136 Rc σ82 x6 0) ∧
 ((σ82.1 61 13) = (σ82.1 81 x6.toNatClampNeg) →
  m_X9_which_J104 a1 Q x2 x3 x4 K136 Rc σ82 x6 1))))))))))
def m_X9_which_L48 (a1 : Int32) (Q : Int32 → St → Prop) (x2 : Int32) (x3 : Int32) (x4 : Int32) (K136 : St → Int32 → Prop) : Nat → St → Int32 → Int32 → Prop
  | 0 => fun _ _ _ => False
  | f + 1 => m_X9_which_L48b a1 Q x2 x3 x4 K136 (m_X9_which_L48 a1 Q x2 x3 x4 K136 f)
def m_X9_which_J151 (a1 : Int32) (Q : Int32 → St → Prop) (K171 : St → Int32 → Int32 → Prop) (Rc : St → Int32 → Int32 → Int32 → Prop) (σ : St) (x2 : Int32) (x4 : Int32) (x5 : Int32) (t0 : Int32) : Prop :=
  ((x5 = 0 →
  bI (x2 + 0) (fun y164 =>
  Rc σ y164 t0 (x4 + 1))) ∧
 (¬ x5 = 0 →
  bI (x2 + 1) (fun y164 =>
  Rc σ y164 t0 (x4 + 1))))
def m_X9_which_J150 (a1 : Int32) (Q : Int32 → St → Prop) (K171 : St → Int32 → Int32 → Prop) (Rc : St → Int32 → Int32 → Int32 → Prop) (σ : St) (x2 : Int32) (x3 : Int32) (x4 : Int32) (x5 : Int32) : Prop :=
  m_X9_which_J151 a1 Q K171 Rc σ x2 x4 x5 x3
def m_X9_which_J136 (a1 : Int32) (Q : Int32 → St → Prop) (K171 : St → Int32 → Int32 → Prop) (Rc : St → Int32 → Int32 → Int32 → Prop) (σ : St) (x2 : Int32) (x3 : Int32) (x4 : Int32) (x5 : Int32) : Prop :=
  ((x5 = 0 →
  m_X9_which_J150 a1 Q K171 Rc σ x2 x3 x4 x5) ∧
 (¬ x5 = 0 →
  ((¬ x2 = 0 →
  m_X9_which_J150 a1 Q K171 Rc σ x2 x3 x4 x5) ∧
 (x2 = 0 →
  m_X9_which_J151 a1 Q K171 Rc σ x2 x4 x5 x4))))
def m_X9_which_L26b (a1 : Int32) (Q : Int32 → St → Prop) (K171 : St → Int32 → Int32 → Prop) (Rc : St → Int32 → Int32 → Int32 → Prop) (σ : St) (x2 : Int32) (x3 : Int32) (x4 : Int32) : Prop :=
  m_X9_many σ 0 (fun r30 σ30 =>
  ((r30 ≤ x4 →
  K171 σ30 x2 x3) ∧
 (¬ r30 ≤ x4 →
  m_X9_isTouch σ30 0 x4 (fun r40 σ40 =>
  ∃ f, m_X9_which_L48 a1 Q x2 x3 x4 (fun σ x5 => m_X9_which_J136 a1 Q K171 Rc σ x2 x3 x4 x5) f σ40 r40 0))))
def m_X9_which_L26 (a1 : Int32) (Q : Int32 → St → Prop) (K171 : St → Int32 → Int32 → Prop) : Nat → St → Int32 → Int32 → Int32 → Prop
  | 0 => fun _ _ _ _ => False
  | f + 1 => m_X9_which_L26b a1 Q K171 (m_X9_which_L26 a1 Q K171 f)
def m_X9_which_J171 (a1 : Int32) (Q : Int32 → St → Prop) (σ : St) (x2 : Int32) (x3 : Int32) : Prop :=
  ((¬ a1 = 0 →
  Q x3 σ) ∧
 (a1 = 0 →
  Q x2 σ))
def m_X9_which (σ : St) (a1 : Int32) (Q : Int32 → St → Prop) : Prop :=
  m_X9_in σ (a1.toInt64) 0 1 (fun r4 σ4 =>
  ((¬ r4 = 0 →
  m_X9_findHeld σ4 0 (fun σ15 =>
  ∃ f, m_X9_which_L26 a1 Q (fun σ x2 x3 => m_X9_which_J171 a1 Q σ x2 x3) f σ15 0 (-9) 0)) ∧
 (r4 = 0 →
  Q (-2) σ4)))
def m_X9_factorial_L4b (a0 : Int32) (Q : Int32 → St → Prop) (K19 : St → Int32 → Prop) (Rc : St → Int32 → Int32 → Prop) (σ : St) (x1 : Int32) (x2 : Int32) : Prop :=
  ((a0 < x2 →
  K19 σ x1) ∧
 (¬ a0 < x2 →
  bI (x1 * x2) (fun y12 =>
  Rc σ y12 (x2 + 1))))
def m_X9_factorial_L4 (a0 : Int32) (Q : Int32 → St → Prop) (K19 : St → Int32 → Prop) : Nat → St → Int32 → Int32 → Prop
  | 0 => fun _ _ _ => False
  | f + 1 => m_X9_factorial_L4b a0 Q K19 (m_X9_factorial_L4 a0 Q K19 f)
def m_X9_factorial_J19 (a0 : Int32) (Q : Int32 → St → Prop) (σ : St) (x1 : Int32) : Prop :=
  Q x1 σ
def m_X9_factorial (σ : St) (a0 : Int32) (Q : Int32 → St → Prop) : Prop :=
  ∃ f, m_X9_factorial_L4 a0 Q (fun σ x1 => m_X9_factorial_J19 a0 Q σ x1) f σ 1 2
def m_X9_common_L13b (a0 : Int32) (a1 : Int32) (Q : Int32 → St → Prop) (K30 : St → Int32 → Prop) (Rc : St → Int32 → Int32 → Prop) (σ : St) (x2 : Int32) (x3 : Int32) : Prop :=
  ((x3 = 0 →
  K30 σ x2) ∧
 (¬ x3 = 0 →
  (¬ x3 = 0 ∧
  bI (x2 - x2 / x3 * x3) (fun y20 =>
  Rc σ x3 y20))))
def m_X9_common_L13 (a0 : Int32) (a1 : Int32) (Q : Int32 → St → Prop) (K30 : St → Int32 → Prop) : Nat → St → Int32 → Int32 → Prop
  | 0 => fun _ _ _ => False
  | f + 1 => m_X9_common_L13b a0 a1 Q K30 (m_X9_common_L13 a0 a1 Q K30 f)
def m_X9_common_J30 (a0 : Int32) (a1 : Int32) (Q : Int32 → St → Prop) (σ : St) (x2 : Int32) : Prop :=
  Q x2 σ
def m_X9_common_J10 (a0 : Int32) (a1 : Int32) (Q : Int32 → St → Prop) (σ : St) (t0 : Int32) : Prop :=
  ∃ f, m_X9_common_L13 a0 a1 Q (fun σ x2 => m_X9_common_J30 a0 a1 Q σ x2) f σ t0 a1
def m_X9_common (σ : St) (a0 : Int32) (a1 : Int32) (Q : Int32 → St → Prop) : Prop :=
  ((0 ≤ a0 →
  m_X9_common_J10 a0 a1 Q σ a0) ∧
 (¬ 0 ≤ a0 →
  m_X9_common_J10 a0 a1 Q σ (-a0)))
def m_X9_share_L19b (a1 : Int32) (a2 : Int32) (Q : Int32 → St → Prop) (K93 : St → Int32 → Prop) (Rc : St → Int32 → Int32 → Prop) (σ : St) (x3 : Int32) (x4 : Int32) : Prop :=
  ((16 ≤ x4 →
  K93 σ x3) ∧
 (¬ 16 ≤ x4 →
  m_X9_has σ x4 a1 (fun r29 σ29 =>
  ((¬ r29 = 0 →
  Rc σ29 x3 (x4 + 1)) ∧
 (r29 = 0 →
  m_X9_ones σ29 x4 (fun r37 σ37 =>
  m_X9_factorial σ37 r37 (fun r40 σ40 =>
  m_X9_ones σ40 x4 (fun r46 σ46 =>
  m_X9_factorial σ46 (3 - r46) (fun r50 σ50 =>
  bI (r40 * r50) (fun y54 =>
  m_X9_flaggedOn σ50 0 x4 (fun r63 σ63 =>
  m_X9_ones σ63 r63 (fun r66 σ66 =>
  m_X9_flaggedOn σ66 0 (x4 ||| ((1 : Int32) <<< (a1 &&& 31))) (fun r77 σ77 =>
  m_X9_ones σ77 r77 (fun r80 σ80 =>
  bI (x3 + (y54 * (r66 - r80))) (fun y86 =>
  Rc σ80 y86 (x4 + 1))))))))))))))))
def m_X9_share_L19 (a1 : Int32) (a2 : Int32) (Q : Int32 → St → Prop) (K93 : St → Int32 → Prop) : Nat → St → Int32 → Int32 → Prop
  | 0 => fun _ _ _ => False
  | f + 1 => m_X9_share_L19b a1 a2 Q K93 (m_X9_share_L19 a1 a2 Q K93 f)
def m_X9_share_J93 (a1 : Int32) (a2 : Int32) (Q : Int32 → St → Prop) (σ : St) (x3 : Int32) : Prop :=
  m_X9_common σ x3 24 (fun r96 σ96 =>
  ((a2 = 0 →
  (¬ r96 = 0 ∧
  Q (24 / r96) σ96)) ∧
 (¬ a2 = 0 →
  (¬ r96 = 0 ∧
  Q (x3 / r96) σ96))))
def m_X9_share (σ : St) (a1 : Int32) (a2 : Int32) (Q : Int32 → St → Prop) : Prop :=
  m_X9_isFour σ a1 (fun r1 σ1 =>
  ((¬ r1 = 0 →
  m_X9_findHeld σ1 0 (fun σ11 =>
  ∃ f, m_X9_share_L19 a1 a2 Q (fun σ x3 => m_X9_share_J93 a1 a2 Q σ x3) f σ11 0 0)) ∧
 (r1 = 0 →
  Q (-1) σ1)))
def m_X9_lost_L30b (a1 : Int32) (a2 : Int32) (a3 : Int32) (Q : Int32 → St → Prop) (K70 : St → Int32 → Prop) (Rc : St → Int32 → Int32 → Prop) (σ : St) (x4 : Int32) (x5 : Int32) : Prop :=
  m_X9_many σ 0 (fun r34 σ34 =>
  ((r34 ≤ x5 →
  K70 σ34 x4) ∧
 (¬ r34 ≤ x5 →
  m_X9_isTouchOf σ34 0 x5 a1 (fun r47 σ47 =>
  ((r47 = 0 →
  bI (x4 ||| 0) (fun y62 =>
  Rc σ47 y62 (x5 + 1))) ∧
 (¬ r47 = 0 →
  bI (x4 ||| ((1 : Int32) <<< (x5 &&& 31))) (fun y62 =>
  Rc σ47 y62 (x5 + 1))))))))
def m_X9_lost_L30 (a1 : Int32) (a2 : Int32) (a3 : Int32) (Q : Int32 → St → Prop) (K70 : St → Int32 → Prop) : Nat → St → Int32 → Int32 → Prop
  | 0 => fun _ _ _ => False
  | f + 1 => m_X9_lost_L30b a1 a2 a3 Q K70 (m_X9_lost_L30 a1 a2 a3 Q K70 f)
def m_X9_lost_L113b (a1 : Int32) (a2 : Int32) (a3 : Int32) (Q : Int32 → St → Prop) (x4 : Int32) (x5 : Int32) (x6 : Int32) (x7 : Int32) (x8 : Int32) (K149 : St → Int32 → Prop) (Rc : St → Int32 → Int32 → Prop) (σ : St) (x9 : Int32) (x10 : Int32) : Prop :=
  ((x5 ≤ x10 →
  K149 σ x9) ∧
 (¬ x5 ≤ x10 →
  m_X9_ones σ x8 (fun r126 σ126 =>
  ((r126 ≤ x10 →
  bI (x9 * (10 - a2)) (fun y141 =>
  Rc σ126 y141 (x10 + 1))) ∧
 (¬ r126 ≤ x10 →
  bI (x9 * a2) (fun y141 =>
  Rc σ126 y141 (x10 + 1)))))))
def m_X9_lost_L113 (a1 : Int32) (a2 : Int32) (a3 : Int32) (Q : Int32 → St → Prop) (x4 : Int32) (x5 : Int32) (x6 : Int32) (x7 : Int32) (x8 : Int32) (K149 : St → Int32 → Prop) : Nat → St → Int32 → Int32 → Prop
  | 0 => fun _ _ _ => False
  | f + 1 => m_X9_lost_L113b a1 a2 a3 Q x4 x5 x6 x7 x8 K149 (m_X9_lost_L113 a1 a2 a3 Q x4 x5 x6 x7 x8 K149 f)
def m_X9_lost_J188 (a1 : Int32) (a2 : Int32) (a3 : Int32) (Q : Int32 → St → Prop) (x4 : Int32) (x5 : Int32) (K212 : St → Int32 → Int32 → Prop) (Rc : St → Int32 → Int32 → Int32 → Prop) (σ : St) (x7 : Int32) (x8 : Int32) (t0 : Int32) (t1 : Int32) : Prop :=
  bI (t0 + t1) (fun y189 =>
  ((¬ x8 = 0 →
  bI ((x8 - 1) &&& x4) (fun y207 =>
  Rc σ y189 x7 y207)) ∧
 (x8 = 0 →
  Rc σ y189 x7 (-1))))
def m_X9_lost_J149 (a1 : Int32) (a2 : Int32) (a3 : Int32) (Q : Int32 → St → Prop) (x4 : Int32) (x5 : Int32) (K212 : St → Int32 → Int32 → Prop) (Rc : St → Int32 → Int32 → Int32 → Prop) (σ : St) (x6 : Int32) (x7 : Int32) (x8 : Int32) (x9 : Int32) : Prop :=
  m_X9_many σ 0 (fun r154 σ154 =>
  m_X9_watchCell σ154 0 a1 r154 15 x8 (fun σ161 =>
  bI (x7 + x9) (fun y169 =>
  ((¬ (σ161.1 61 16) = (-9) →
  m_X9_lost_J188 a1 a2 a3 Q x4 x5 K212 Rc σ161 y169 x8 x6 x9) ∧
 ((σ161.1 61 16) = (-9) →
  m_X9_lost_J188 a1 a2 a3 Q x4 x5 K212 Rc σ161 y169 x8 x6 0)))))
def m_X9_lost_L102b (a1 : Int32) (a2 : Int32) (a3 : Int32) (Q : Int32 → St → Prop) (x4 : Int32) (x5 : Int32) (K212 : St → Int32 → Int32 → Prop) (Rc : St → Int32 → Int32 → Int32 → Prop) (σ : St) (x6 : Int32) (x7 : Int32) (x8 : Int32) : Prop :=
  ((x8 < 0 →
  K212 σ x6 x7) ∧
 (¬ x8 < 0 →
  ∃ f, m_X9_lost_L113 a1 a2 a3 Q x4 x5 x6 x7 x8 (fun σ x9 => m_X9_lost_J149 a1 a2 a3 Q x4 x5 K212 Rc σ x6 x7 x8 x9) f σ 1 0))
def m_X9_lost_L102 (a1 : Int32) (a2 : Int32) (a3 : Int32) (Q : Int32 → St → Prop) (x4 : Int32) (x5 : Int32) (K212 : St → Int32 → Int32 → Prop) : Nat → St → Int32 → Int32 → Int32 → Prop
  | 0 => fun _ _ _ _ => False
  | f + 1 => m_X9_lost_L102b a1 a2 a3 Q x4 x5 K212 (m_X9_lost_L102 a1 a2 a3 Q x4 x5 K212 f)
def m_X9_lost_J212 (a1 : Int32) (a2 : Int32) (a3 : Int32) (Q : Int32 → St → Prop) (σ : St) (x6 : Int32) (x7 : Int32) : Prop :=
  m_X9_common σ x6 x7 (fun r216 σ216 =>
  ((a3 = 0 →
  (¬ r216 = 0 ∧
  Q (x7 / r216) σ216)) ∧
 (¬ a3 = 0 →
  (¬ r216 = 0 ∧
  Q (x6 / r216) σ216))))
def m_X9_lost_J70 (a1 : Int32) (a2 : Int32) (a3 : Int32) (Q : Int32 → St → Prop) (σ : St) (x4 : Int32) : Prop :=
  m_X9_ones σ x4 (fun r72 σ72 =>
  ((r72 ≤ 9 →
  m_X9_findHeld σ72 0 (fun σ89 =>
  ∃ f, m_X9_lost_L102 a1 a2 a3 Q x4 r72 (fun σ x6 x7 => m_X9_lost_J212 a1 a2 a3 Q σ x6 x7) f σ89 0 0 x4)) ∧
 (¬ r72 ≤ 9 →
  Q (-4) σ72)))
def m_X9_lost (σ : St) (a1 : Int32) (a2 : Int32) (a3 : Int32) (Q : Int32 → St → Prop) : Prop :=
  m_X9_isFour σ a1 (fun r1 σ1 =>
  ((¬ r1 = 0 →
  m_X9_in σ1 (a2.toInt64) 0 10 (fun r15 σ15 =>
  ((¬ r15 = 0 →
  ∃ f, m_X9_lost_L30 a1 a2 a3 Q (fun σ x4 => m_X9_lost_J70 a1 a2 a3 Q σ x4) f σ15 0 0) ∧
 (r15 = 0 →
  Q (-2) σ15)))) ∧
 (r1 = 0 →
  Q (-1) σ1)))
def m_X9_seed (σ : St) (a1 : Int64) (Q : Int64 → St → Prop) : Prop :=
  bL (σ.2 61 36) (fun y4 =>
  sLB σ 61 36 a1 (fun σ7 =>
  Q y4 σ7))
def m_X9_drawn_J96 (a1 : Int32) (Q : Int32 → St → Prop) (K123 : St → Int32 → Int32 → Prop) (Rc : St → Int32 → Int32 → Int32 → Prop) (σ : St) (x2 : Int32) (x4 : Int32) (t0 : Int32) (t1 : Int32) : Prop :=
  bI (t0 + t1) (fun y97 =>
  m_X9_feasibleOn σ 1 (fun r101 σ101 =>
  m_X9_flaggedOn σ101 1 15 (fun r108 σ108 =>
  m_X9_ones σ108 r108 (fun r111 σ111 =>
  bI (x2 + (r101 + r111)) (fun y116 =>
  Rc σ111 y116 y97 (x4 + 1))))))
def m_X9_drawn_J74 (a1 : Int32) (Q : Int32 → St → Prop) (K123 : St → Int32 → Int32 → Prop) (Rc : St → Int32 → Int32 → Int32 → Prop) (σ : St) (x2 : Int32) (x3 : Int32) (x4 : Int32) (t0 : Int64) (t1 : Int32) : Prop :=
  (¬ (t1.toInt64) = 0 ∧
  bI ((t0 - t0 / (t1.toInt64) * (t1.toInt64)).toInt32) (fun y77 =>
  m_X9_tryThing σ 1 y77 0 (fun r85 σ85 =>
  ((r85 = 0 →
  m_X9_drawn_J96 a1 Q K123 Rc σ85 x2 x4 x3 0) ∧
 (¬ r85 = 0 →
  m_X9_drawn_J96 a1 Q K123 Rc σ85 x2 x4 x3 1)))))
def m_X9_drawn_L28b (a1 : Int32) (Q : Int32 → St → Prop) (K123 : St → Int32 → Int32 → Prop) (Rc : St → Int32 → Int32 → Int32 → Prop) (σ : St) (x2 : Int32) (x3 : Int32) (x4 : Int32) : Prop :=
  ((a1 ≤ x4 →
  K123 σ x2 x3) ∧
 (¬ a1 ≤ x4 →
  sLB σ 61 36 (((σ.2 61 36) * 6364136223846793005) + 1442695040888963407) (fun σ47 =>
  m_X9_many σ47 1 (fun r59 σ59 =>
  ((¬ r59 = 0 →
  m_X9_many σ59 1 (fun r71 σ71 =>
  m_X9_drawn_J74 a1 Q K123 Rc σ71 x2 x3 x4 (((σ47.2 61 36).toUInt64 >>> ((33 : Int32).toInt64.toUInt64 &&& Int64.toUInt64 63)).toInt64) r71)) ∧
 (r59 = 0 →
  m_X9_drawn_J74 a1 Q K123 Rc σ59 x2 x3 x4 (((σ47.2 61 36).toUInt64 >>> ((33 : Int32).toInt64.toUInt64 &&& Int64.toUInt64 63)).toInt64) 1))))))
def m_X9_drawn_L28 (a1 : Int32) (Q : Int32 → St → Prop) (K123 : St → Int32 → Int32 → Prop) : Nat → St → Int32 → Int32 → Int32 → Prop
  | 0 => fun _ _ _ _ => False
  | f + 1 => m_X9_drawn_L28b a1 Q K123 (m_X9_drawn_L28 a1 Q K123 f)
def m_X9_drawn_J123 (a1 : Int32) (Q : Int32 → St → Prop) (σ : St) (x2 : Int32) (x3 : Int32) : Prop :=
  ((0 ≤ x3 →
  Q x2 σ) ∧
 (¬ 0 ≤ x3 →
  Q 0 σ))
def m_X9_drawn (σ : St) (a1 : Int32) (Q : Int32 → St → Prop) : Prop :=
  m_X9_in σ (a1.toInt64) 1 20 (fun r6 σ6 =>
  ((¬ r6 = 0 →
  m_X9_lay σ6 1 0 (fun σ18 =>
  ∃ f, m_X9_drawn_L28 a1 Q (fun σ x2 x3 => m_X9_drawn_J123 a1 Q σ x2 x3) f σ18 0 0 0)) ∧
 (r6 = 0 →
  Q (-2) σ6)))
def m_X9_keep_L21b (a1 : Int32) (Q : Int32 → St → Prop) (K50 : St → Prop) (Rc : St → Int32 → Prop) (σ : St) (x2 : Int32) : Prop :=
  ((21 ≤ x2 →
  K50 σ) ∧
 (¬ 21 ≤ x2 →
  (vp_in x2 42 ∧
  (vp_in ((21 * a1) + x2) 42 ∧
  sIB σ 84 (((21 * a1) + x2).toNatClampNeg) (σ.1 64 x2.toNatClampNeg) (fun σ43 =>
  Rc σ43 (x2 + 1))))))
def m_X9_keep_L21 (a1 : Int32) (Q : Int32 → St → Prop) (K50 : St → Prop) : Nat → St → Int32 → Prop
  | 0 => fun _ _ => False
  | f + 1 => m_X9_keep_L21b a1 Q K50 (m_X9_keep_L21 a1 Q K50 f)
def m_X9_keep_J50 (a1 : Int32) (Q : Int32 → St → Prop) (σ : St) : Prop :=
  m_X9_many σ 0 (fun r52 σ52 =>
  Q r52 σ52)
def m_X9_keep (σ : St) (a1 : Int32) (Q : Int32 → St → Prop) : Prop :=
  m_X9_in σ (a1.toInt64) 0 1 (fun r4 σ4 =>
  ((¬ r4 = 0 →
  (vp_in a1 2 ∧
  sIB σ4 83 (a1.toNatClampNeg) (vp_nar .boolean 1) (fun σ18 =>
  ∃ f, m_X9_keep_L21 a1 Q (fun σ => m_X9_keep_J50 a1 Q σ) f σ18 0))) ∧
 (r4 = 0 →
  Q (-1) σ4)))
def m_X9_again_L26b (a1 : Int32) (Q : Int32 → St → Prop) (K55 : St → Prop) (Rc : St → Int32 → Prop) (σ : St) (x2 : Int32) : Prop :=
  ((21 ≤ x2 →
  K55 σ) ∧
 (¬ 21 ≤ x2 →
  (vp_in ((21 * a1) + x2) 42 ∧
  (vp_in x2 42 ∧
  sIB σ 64 (x2.toNatClampNeg) (σ.1 84 ((21 * a1) + x2).toNatClampNeg) (fun σ48 =>
  Rc σ48 (x2 + 1))))))
def m_X9_again_L26 (a1 : Int32) (Q : Int32 → St → Prop) (K55 : St → Prop) : Nat → St → Int32 → Prop
  | 0 => fun _ _ => False
  | f + 1 => m_X9_again_L26b a1 Q K55 (m_X9_again_L26 a1 Q K55 f)
def m_X9_again_J55 (a1 : Int32) (Q : Int32 → St → Prop) (σ : St) : Prop :=
  sIB σ 61 10 0 (fun σ57 =>
  m_X9_many σ57 0 (fun r62 σ62 =>
  Q r62 σ62))
def m_X9_again (σ : St) (a1 : Int32) (Q : Int32 → St → Prop) : Prop :=
  m_X9_in σ (a1.toInt64) 0 1 (fun r4 σ4 =>
  ((¬ r4 = 0 →
  (vp_in a1 2 ∧
  ((¬ (σ4.1 83 a1.toNatClampNeg) = 0 →
  ∃ f, m_X9_again_L26 a1 Q (fun σ => m_X9_again_J55 a1 Q σ) f σ4 0) ∧
 ((σ4.1 83 a1.toNatClampNeg) = 0 →
  Q (-3) σ4)))) ∧
 (r4 = 0 →
  Q (-1) σ4)))
def m_X9_meetingCells_L9b (Q : Int32 → St → Prop) (K38 : St → Int32 → Prop) (Rc : St → Int32 → Int32 → Prop) (σ : St) (x1 : Int32) (x2 : Int32) : Prop :=
  ((4 ≤ x2 →
  K38 σ x1) ∧
 (¬ 4 ≤ x2 →
  m_X9_meetingsOf σ x2 (fun r17 σ17 =>
  ((r17 ≤ 0 →
  bI (x1 ||| 0) (fun y31 =>
  Rc σ17 y31 (x2 + 1))) ∧
 (¬ r17 ≤ 0 →
  bI (x1 ||| ((1 : Int32) <<< (x2 &&& 31))) (fun y31 =>
  Rc σ17 y31 (x2 + 1)))))))
def m_X9_meetingCells_L9 (Q : Int32 → St → Prop) (K38 : St → Int32 → Prop) : Nat → St → Int32 → Int32 → Prop
  | 0 => fun _ _ _ => False
  | f + 1 => m_X9_meetingCells_L9b Q K38 (m_X9_meetingCells_L9 Q K38 f)
def m_X9_meetingCells_J38 (Q : Int32 → St → Prop) (σ : St) (x1 : Int32) : Prop :=
  Q x1 σ
def m_X9_meetingCells (σ : St) (Q : Int32 → St → Prop) : Prop :=
  m_X9_findBefore σ 0 (fun σ2 =>
  ∃ f, m_X9_meetingCells_L9 Q (fun σ x1 => m_X9_meetingCells_J38 Q σ x1) f σ2 0 0)
def m_X9_count (σ : St) (a1 : Int32) (Q : Int32 → St → Prop) : Prop :=
  m_X9_findHeld σ 0 (fun σ2 =>
  ((a1 = 0 →
  Q (σ2.1 61 6) σ2) ∧
 (a1 = 1 →
  m_X9_many σ2 0 (fun r63 σ63 =>
  Q r63 σ63)) ∧
 (a1 = 2 →
  Q (σ2.1 61 2) σ2) ∧
 (a1 = 3 →
  Q (σ2.1 61 3) σ2) ∧
 (a1 = 4 →
  m_X9_writeHeld σ2  (fun r78 σ78 =>
  m_X9_readHeld σ78  (fun r82 σ82 =>
  Q (r78 ||| r82) σ82))) ∧
 (a1 = 5 →
  m_X9_flaggedOn σ2 0 15 (fun r91 σ91 =>
  Q r91 σ91)) ∧
 (a1 = 6 →
  m_X9_meetingCells σ2  (fun r96 σ96 =>
  Q r96 σ96)) ∧
 (a1 = 7 →
  Q (σ2.1 61 10) σ2) ∧
 (a1 = 8 →
  Q (σ2.1 61 32) σ2) ∧
 (¬ a1 = 0 ∧ ¬ a1 = 1 ∧ ¬ a1 = 2 ∧ ¬ a1 = 3 ∧ ¬ a1 = 4 ∧ ¬ a1 = 5 ∧ ¬ a1 = 6 ∧ ¬ a1 = 7 ∧ ¬ a1 = 8 →
  Q (-2) σ2)))
