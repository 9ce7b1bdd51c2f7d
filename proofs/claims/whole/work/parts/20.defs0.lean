def m_X0_push_J57 (a1 : Int32) (a2 : Int32) (Q : St → Prop) (σ : St) : Prop :=
  (vp_in (σ.1 45 0) 14 ∧
  sIB σ 46 ((σ.1 45 0).toNatClampNeg) a1 (fun σ66 =>
  (vp_in (σ66.1 45 0) 14 ∧
  sIB σ66 47 ((σ66.1 45 0).toNatClampNeg) a2 (fun σ76 =>
  sIB σ76 45 0 ((σ76.1 45 0) + 1) (fun σ84 =>
  Q σ84)))))
def m_X0_push_L11b (a1 : Int32) (a2 : Int32) (Q : St → Prop) (K51 : St → Prop) (Rc : St → Int32 → Prop) (σ : St) (x3 : Int32) : Prop :=
  ((14 ≤ x3 →
  K51 σ) ∧
 (¬ 14 ≤ x3 →
  (vp_in x3 14 ∧
  (vp_in (x3 - 1) 14 ∧
  sIB σ 46 ((x3 - 1).toNatClampNeg) (σ.1 46 x3.toNatClampNeg) (fun σ30 =>
  (vp_in x3 14 ∧
  (vp_in (x3 - 1) 14 ∧
  sIB σ30 47 ((x3 - 1).toNatClampNeg) (σ30.1 47 x3.toNatClampNeg) (fun σ44 =>
  Rc σ44 (x3 + 1)))))))))
def m_X0_push_L11 (a1 : Int32) (a2 : Int32) (Q : St → Prop) (K51 : St → Prop) : Nat → St → Int32 → Prop
  | 0 => fun _ _ => False
  | f + 1 => m_X0_push_L11b a1 a2 Q K51 (m_X0_push_L11 a1 a2 Q K51 f)
def m_X0_push_J51 (a1 : Int32) (a2 : Int32) (Q : St → Prop) (σ : St) : Prop :=
  sIB σ 45 0 13 (fun σ54 =>
  m_X0_push_J57 a1 a2 Q σ54)
def m_X0_push (σ : St) (a1 : Int32) (a2 : Int32) (Q : St → Prop) : Prop :=
  (((σ.1 45 0) < 14 →
  m_X0_push_J57 a1 a2 Q σ) ∧
 (¬ (σ.1 45 0) < 14 →
  ∃ f, m_X0_push_L11 a1 a2 Q (fun σ => m_X0_push_J51 a1 a2 Q σ) f σ 1))
def m_X4_exchange (b0 : Nat) (σ : St) (a1 : Int32) (Q : St → Prop) : Prop :=
  (vp_in a1 20 ∧
  bI (σ.1 (b0 + 1) a1.toNatClampNeg) (fun y6 =>
  (vp_in (a1 + 1) 20 ∧
  (vp_in a1 20 ∧
  sIB σ (b0 + 1) (a1.toNatClampNeg) (σ.1 (b0 + 1) (a1 + 1).toNatClampNeg) (fun σ20 =>
  (vp_in (a1 + 1) 20 ∧
  sIB σ20 (b0 + 1) ((a1 + 1).toNatClampNeg) y6 (fun σ29 =>
  Q σ29)))))))
def m_X4_hasPair (b0 : Nat) (σ : St) (a1 : Int32) (Q : Int32 → St → Prop) : Prop :=
  ((a1 < 0 →
  Q 0 σ) ∧
 (¬ a1 < 0 →
  ((((σ.1 b0 0) - 1) ≤ a1 →
  Q 0 σ) ∧
 (¬ ((σ.1 b0 0) - 1) ≤ a1 →
  Q 1 σ))))
def m_J7_fill_53178_L5b (q0 : Nat) (n0 : Nat) (a1 : Int32) (Q : St → Prop) (x3 : Int32) (K20 : St → Prop) (Rc : St → Int32 → Prop) (σ : St) (x2 : Int32) : Prop :=
  ((x3 ≤ x2 →
  K20 σ) ∧
 (¬ x3 ≤ x2 →
  (vp_in x2 n0 ∧
  sIB σ q0 (x2.toNatClampNeg) a1 (fun σ13 =>
  Rc σ13 (x2 + 1)))))
def m_J7_fill_53178_L5 (q0 : Nat) (n0 : Nat) (a1 : Int32) (Q : St → Prop) (x3 : Int32) (K20 : St → Prop) : Nat → St → Int32 → Prop
  | 0 => fun _ _ => False
  | f + 1 => m_J7_fill_53178_L5b q0 n0 a1 Q x3 K20 (m_J7_fill_53178_L5 q0 n0 a1 Q x3 K20 f)
def m_J7_fill_53178_J20 (q0 : Nat) (n0 : Nat) (a1 : Int32) (Q : St → Prop) (σ : St) : Prop :=
  Q σ
def m_J7_fill_53178 (q0 : Nat) (n0 : Nat) (σ : St) (a1 : Int32) (Q : St → Prop) : Prop :=
  bI (Int32.ofNat n0) (fun y4 =>
  ∃ f, m_J7_fill_53178_L5 q0 n0 a1 Q y4 (fun σ => m_J7_fill_53178_J20 q0 n0 a1 Q σ) f σ 0)
def m_X7_begin (w0 : Nat) (σ : St) (Q : St → Prop) : Prop :=
  sIB σ w0 0 1 (fun σ2 =>
  sIB σ2 w0 1 0 (fun σ7 =>
  m_J7_fill_53178 (w0 + 1) 4 σ7 0 (fun σ15 =>
  m_J7_fill_53178 (w0 + 2) 4 σ15 0 (fun σ23 =>
  Q σ23))))
def m_X4_begin (b0 : Nat) (σ : St) (Q : St → Prop) : Prop :=
  sIB σ b0 0 0 (fun σ2 =>
  sIB σ2 b0 7 0 (fun σ7 =>
  m_J7_fill_53178 (b0 + 6) 4 σ7 0 (fun σ15 =>
  m_X7_begin (b0 + 7) σ15  (fun σ22 =>
  Q σ22))))
def m_X4_order_J37 (b0 : Nat) (a1 : Int32) (a2 : Int32) (a3 : Int32) (Q : St → Prop) (σ : St) (x4 : Int32) : Prop :=
  (vp_in (σ.1 b0 0) 20 ∧
  sIB σ (b0 + 5) ((σ.1 b0 0).toNatClampNeg) x4 (fun σ47 =>
  (vp_in a1 4 ∧
  sIB σ47 (b0 + 6) (a1.toNatClampNeg) (x4 ||| ((1 : Int32) <<< ((σ47.1 b0 0) &&& 31))) (fun σ62 =>
  ((¬ a2 = 102 →
  sIB σ62 b0 7 ((σ62.1 b0 7) ||| ((1 : Int32) <<< (a1 &&& 31))) (fun σ90 =>
  Q σ90)) ∧
 (a2 = 102 →
  (vp_in a1 4 ∧
  (vp_in a3 4 ∧
  sIB σ62 (b0 + 6) (a3.toNatClampNeg) (σ62.1 (b0 + 6) a1.toNatClampNeg) (fun σ80 =>
  sIB σ80 b0 7 ((σ80.1 b0 7) ||| ((1 : Int32) <<< (a1 &&& 31))) (fun σ90 =>
  Q σ90))))))))))
def m_X4_order (b0 : Nat) (σ : St) (a1 : Int32) (a2 : Int32) (a3 : Int32) (Q : St → Prop) : Prop :=
  (vp_in a1 4 ∧
  bI (σ.1 (b0 + 6) a1.toNatClampNeg) (fun y6 =>
  ((¬ a2 = 106 →
  m_X4_order_J37 b0 a1 a2 a3 Q σ y6) ∧
 (a2 = 106 →
  ((¬ (((σ.1 b0 7) >>> (a3 &&& 31)) &&& 1) = 1 →
  m_X4_order_J37 b0 a1 a2 a3 Q σ y6) ∧
 ((((σ.1 b0 7) >>> (a3 &&& 31)) &&& 1) = 1 →
  (vp_in a3 4 ∧
  bI (y6 ||| (σ.1 (b0 + 6) a3.toNatClampNeg)) (fun y35 =>
  m_X4_order_J37 b0 a1 a2 a3 Q σ y35))))))))
def m_X7_allToRead (w0 : Nat) (σ : St) (Q : Int32 → St → Prop) : Prop :=
  Q ((((σ.1 (w0 + 2) ((0 : Int32).toNatClampNeg)) ||| (σ.1 (w0 + 2) ((1 : Int32).toNatClampNeg))) ||| (σ.1 (w0 + 2) ((2 : Int32).toNatClampNeg))) ||| (σ.1 (w0 + 2) ((3 : Int32).toNatClampNeg))) σ
def m_X7_allToWrite (w0 : Nat) (σ : St) (Q : Int32 → St → Prop) : Prop :=
  Q ((((σ.1 (w0 + 1) ((0 : Int32).toNatClampNeg)) ||| (σ.1 (w0 + 1) ((1 : Int32).toNatClampNeg))) ||| (σ.1 (w0 + 1) ((2 : Int32).toNatClampNeg))) ||| (σ.1 (w0 + 1) ((3 : Int32).toNatClampNeg))) σ
def m_X7_awaitable_L20b (w0 : Nat) (a1 : Int32) (Q : Int32 → St → Prop) (K55 : St → Int32 → Prop) (Rc : St → Int32 → Int32 → Prop) (σ : St) (x2 : Int32) (x3 : Int32) : Prop :=
  ((4 ≤ x3 →
  K55 σ x2) ∧
 (¬ 4 ≤ x3 →
  (vp_in x3 4 ∧
  (vp_in x3 4 ∧
  ((((σ.1 (w0 + 1) x3.toNatClampNeg) ||| (σ.1 (w0 + 2) x3.toNatClampNeg)) = 0 →
  Rc σ x2 (x3 + 1)) ∧
 (¬ ((σ.1 (w0 + 1) x3.toNatClampNeg) ||| (σ.1 (w0 + 2) x3.toNatClampNeg)) = 0 →
  bI (x2 &&& (((1 : Int32) <<< (x3 &&& 31)) ^^^ (-1))) (fun y48 =>
  Rc σ y48 (x3 + 1))))))))
def m_X7_awaitable_L20 (w0 : Nat) (a1 : Int32) (Q : Int32 → St → Prop) (K55 : St → Int32 → Prop) : Nat → St → Int32 → Int32 → Prop
  | 0 => fun _ _ _ => False
  | f + 1 => m_X7_awaitable_L20b w0 a1 Q K55 (m_X7_awaitable_L20 w0 a1 Q K55 f)
def m_X7_awaitable_J55 (w0 : Nat) (a1 : Int32) (Q : Int32 → St → Prop) (σ : St) (x2 : Int32) : Prop :=
  Q x2 σ
def m_X7_awaitable (w0 : Nat) (σ : St) (a1 : Int32) (Q : Int32 → St → Prop) : Prop :=
  bI (((σ.1 w0 0) &&& ((σ.1 w0 1) ^^^ (-1))) &&& (((1 : Int32) <<< (a1 &&& 31)) ^^^ (-1))) (fun y17 =>
  ∃ f, m_X7_awaitable_L20 w0 a1 Q (fun σ x2 => m_X7_awaitable_J55 w0 a1 Q σ x2) f σ y17 0)
def m_X7_lives (w0 : Nat) (σ : St) (a1 : Int32) (Q : Int32 → St → Prop) : Prop :=
  ((a1 < 0 →
  Q 0 σ) ∧
 (¬ a1 < 0 →
  ((4 ≤ a1 →
  Q 0 σ) ∧
 (¬ 4 ≤ a1 →
  ((¬ ((((σ.1 w0 0) &&& ((σ.1 w0 1) ^^^ (-1))) >>> (a1 &&& 31)) &&& 1) = 1 →
  Q 0 σ) ∧
 (((((σ.1 w0 0) &&& ((σ.1 w0 1) ^^^ (-1))) >>> (a1 &&& 31)) &&& 1) = 1 →
  Q 1 σ))))))
def m_X7_choices (w0 : Nat) (σ : St) (a1 : Int32) (a2 : Int32) (Q : Int32 → St → Prop) : Prop :=
  m_X7_lives w0 σ a1 (fun r2 σ2 =>
  ((¬ r2 = 0 →
  ((a2 = 102 →
  Q (15 &&& ((σ2.1 w0 0) ^^^ (-1))) σ2) ∧
 (a2 = 106 →
  m_X7_awaitable w0 σ2 a1 (fun r160 σ160 =>
  Q r160 σ160)) ∧
 (a2 = 108 →
  m_X7_allToWrite w0 σ2  (fun r99 σ99 =>
  m_X7_allToRead w0 σ99  (fun r103 σ103 =>
  Q (15 &&& ((r99 ||| r103) ^^^ (-1))) σ103))) ∧
 (a2 = 114 →
  Q 15 σ2) ∧
 (a2 = 115 →
  m_X7_allToWrite w0 σ2  (fun r114 σ114 =>
  (vp_in a1 4 ∧
  Q (15 &&& ((r114 ||| (σ114.1 (w0 + 2) a1.toNatClampNeg)) ^^^ (-1))) σ114))) ∧
 (a2 = 117 →
  (vp_in a1 4 ∧
  (vp_in a1 4 ∧
  Q ((σ2.1 (w0 + 1) a1.toNatClampNeg) ||| (σ2.1 (w0 + 2) a1.toNatClampNeg)) σ2))) ∧
 (a2 = 119 →
  Q 15 σ2) ∧
 (¬ a2 = 102 ∧ ¬ a2 = 106 ∧ ¬ a2 = 108 ∧ ¬ a2 = 114 ∧ ¬ a2 = 115 ∧ ¬ a2 = 117 ∧ ¬ a2 = 119 →
  Q 0 σ2))) ∧
 (r2 = 0 →
  Q 0 σ2)))
def m_X7_go (w0 : Nat) (σ : St) (a1 : Int32) (a2 : Int32) (a3 : Int32) (Q : St → Prop) : Prop :=
  bI ((1 : Int32) <<< (a3 &&& 31)) (fun y3 =>
  ((a2 = 102 →
  sIB σ w0 0 ((σ.1 w0 0) ||| y3) (fun σ121 =>
  Q σ121)) ∧
 (a2 = 106 →
  sIB σ w0 1 ((σ.1 w0 1) ||| y3) (fun σ135 =>
  Q σ135)) ∧
 (a2 = 108 →
  (vp_in a1 4 ∧
  (vp_in a1 4 ∧
  sIB σ (w0 + 1) (a1.toNatClampNeg) ((σ.1 (w0 + 1) a1.toNatClampNeg) ||| y3) (fun σ66 =>
  Q σ66)))) ∧
 (a2 = 115 →
  (vp_in a1 4 ∧
  (vp_in a1 4 ∧
  sIB σ (w0 + 2) (a1.toNatClampNeg) ((σ.1 (w0 + 2) a1.toNatClampNeg) ||| y3) (fun σ80 =>
  Q σ80)))) ∧
 (a2 = 117 →
  (vp_in a1 4 ∧
  (vp_in a1 4 ∧
  sIB σ (w0 + 1) (a1.toNatClampNeg) ((σ.1 (w0 + 1) a1.toNatClampNeg) &&& (y3 ^^^ (-1))) (fun σ96 =>
  (vp_in a1 4 ∧
  (vp_in a1 4 ∧
  sIB σ96 (w0 + 2) (a1.toNatClampNeg) ((σ96.1 (w0 + 2) a1.toNatClampNeg) &&& (y3 ^^^ (-1))) (fun σ109 =>
  Q σ109))))))) ∧
 (¬ a2 = 102 ∧ ¬ a2 = 106 ∧ ¬ a2 = 108 ∧ ¬ a2 = 115 ∧ ¬ a2 = 117 →
  Q σ)))
def m_X4_put_J134 (b0 : Nat) (a1 : Int32) (Q : Int32 → St → Prop) (σ : St) (x2 : Int32) (x3 : Int32) (x4 : Int32) (t1 : Int32) (t2 : Int32) : Prop :=
  (vp_in t1 20 ∧
  sIB σ (b0 + 4) (t1.toNatClampNeg) t2 (fun σ134 =>
  m_X4_order b0 σ134 x2 x3 x4 (fun σ140 =>
  m_X7_go (b0 + 7) σ140 x2 x3 x4 (fun σ151 =>
  sIB σ151 b0 0 ((σ151.1 b0 0) + 1) (fun σ161 =>
  Q 1 σ161)))))
def m_X4_put (b0 : Nat) (σ : St) (a1 : Int32) (Q : Int32 → St → Prop) : Prop :=
  bI ((a1 >>> ((2 : Int32) &&& 31)) &&& 3) (fun y5 =>
  bI (a1 >>> ((4 : Int32) &&& 31)) (fun y9 =>
  bI (a1 &&& 3) (fun y13 =>
  ((20 ≤ (σ.1 b0 0) →
  Q 0 σ) ∧
 (¬ 20 ≤ (σ.1 b0 0) →
  m_X7_choices (b0 + 7) σ y5 y9 (fun r30 σ30 =>
  ((¬ ((r30 >>> (y13 &&& 31)) &&& 1) = 0 →
  (vp_in (σ30.1 b0 0) 20 ∧
  sIB σ30 (b0 + 1) ((σ30.1 b0 0).toNatClampNeg) a1 (fun σ52 =>
  (vp_in y5 4 ∧
  (vp_in (σ52.1 b0 0) 20 ∧
  sIB σ52 (b0 + 2) ((σ52.1 b0 0).toNatClampNeg) (σ52.1 ((b0 + 7) + 1) y5.toNatClampNeg) (fun σ70 =>
  (vp_in y5 4 ∧
  (vp_in (σ70.1 b0 0) 20 ∧
  sIB σ70 (b0 + 3) ((σ70.1 b0 0).toNatClampNeg) (σ70.1 ((b0 + 7) + 2) y5.toNatClampNeg) (fun σ88 =>
  ((¬ y9 = 119 →
  (vp_in (σ88.1 b0 0) 20 ∧
  (vp_in (σ88.1 b0 0) 20 ∧
  m_X4_put_J134 b0 a1 Q σ88 y5 y9 y13 (σ88.1 b0 0) ((σ88.1 (b0 + 2) (σ88.1 b0 0).toNatClampNeg) ||| (σ88.1 (b0 + 3) (σ88.1 b0 0).toNatClampNeg))))) ∧
 (y9 = 119 →
  (vp_in (σ88.1 b0 0) 20 ∧
  m_X4_put_J134 b0 a1 Q σ88 y5 y9 y13 (σ88.1 b0 0) (σ88.1 (b0 + 2) (σ88.1 b0 0).toNatClampNeg))))))))))))) ∧
 (((r30 >>> (y13 &&& 31)) &&& 1) = 0 →
  Q 0 σ30))))))))
def m_X4_replay_L6b (b0 : Nat) (a1 : Int32) (Q : Int32 → St → Prop) (K30 : St → Prop) (K38 : St → Prop) (Rc : St → Int32 → Prop) (σ : St) (x2 : Int32) : Prop :=
  ((a1 ≤ x2 →
  K38 σ) ∧
 (¬ a1 ≤ x2 →
  ((20 ≤ x2 →
  K38 σ) ∧
 (¬ 20 ≤ x2 →
  (vp_in x2 20 ∧
  m_X4_put b0 σ (σ.1 (b0 + 1) x2.toNatClampNeg) (fun r24 σ24 =>
  ((¬ r24 = 0 →
  Rc σ24 (x2 + 1)) ∧
 (r24 = 0 →
  K30 σ24))))))))
def m_X4_replay_L6 (b0 : Nat) (a1 : Int32) (Q : Int32 → St → Prop) (K30 : St → Prop) (K38 : St → Prop) : Nat → St → Int32 → Prop
  | 0 => fun _ _ => False
  | f + 1 => m_X4_replay_L6b b0 a1 Q K30 K38 (m_X4_replay_L6 b0 a1 Q K30 K38 f)
def m_X4_replay_J30 (b0 : Nat) (a1 : Int32) (Q : Int32 → St → Prop) (σ : St) : Prop :=
  Q 0 σ
def m_X4_replay_J38 (b0 : Nat) (a1 : Int32) (Q : Int32 → St → Prop) (σ : St) : Prop :=
  Q 1 σ
def m_X4_replay (b0 : Nat) (σ : St) (a1 : Int32) (Q : Int32 → St → Prop) : Prop :=
  m_X4_begin b0 σ  (fun σ1 =>
  ∃ f, m_X4_replay_L6 b0 a1 Q (fun σ => m_X4_replay_J30 b0 a1 Q σ) (fun σ => m_X4_replay_J38 b0 a1 Q σ) f σ1 0)
def m_X4_changePlaces (b0 : Nat) (σ : St) (a1 : Int32) (Q : Int32 → St → Prop) : Prop :=
  m_X4_hasPair b0 σ a1 (fun r2 σ2 =>
  ((¬ r2 = 0 →
  bI (σ2.1 b0 0) (fun y14 =>
  m_X4_exchange b0 σ2 a1 (fun σ17 =>
  m_X4_replay b0 σ17 y14 (fun r22 σ22 =>
  ((r22 = 0 →
  m_X4_exchange b0 σ22 a1 (fun σ32 =>
  m_X4_replay b0 σ32 y14 (fun r37 σ37 =>
  Q 0 σ37))) ∧
 (¬ r22 = 0 →
  Q 1 σ22)))))) ∧
 (r2 = 0 →
  Q 0 σ2)))
def m_X4_open_L5b (b0 : Nat) (a1 : Int32) (a2 : Int32) (a3 : Int32) (Q : St → Prop) (K33 : St → Prop) (Rc : St → Int32 → Prop) (σ : St) (x4 : Int32) : Prop :=
  ((x4 ≤ a1 →
  K33 σ) ∧
 (¬ x4 ≤ a1 →
  (vp_in (x4 - 1) 20 ∧
  (vp_in x4 20 ∧
  sIB σ (b0 + 1) (x4.toNatClampNeg) (σ.1 (b0 + 1) (x4 - 1).toNatClampNeg) (fun σ26 =>
  Rc σ26 (x4 + (-1)))))))
def m_X4_open_L5 (b0 : Nat) (a1 : Int32) (a2 : Int32) (a3 : Int32) (Q : St → Prop) (K33 : St → Prop) : Nat → St → Int32 → Prop
  | 0 => fun _ _ => False
  | f + 1 => m_X4_open_L5b b0 a1 a2 a3 Q K33 (m_X4_open_L5 b0 a1 a2 a3 Q K33 f)
def m_X4_open_J33 (b0 : Nat) (a1 : Int32) (a2 : Int32) (a3 : Int32) (Q : St → Prop) (σ : St) : Prop :=
  (vp_in a1 20 ∧
  sIB σ (b0 + 1) (a1.toNatClampNeg) a2 (fun σ39 =>
  Q σ39))
def m_X4_open (b0 : Nat) (σ : St) (a1 : Int32) (a2 : Int32) (a3 : Int32) (Q : St → Prop) : Prop :=
  bI (a3 - 1) (fun y3 =>
  ∃ f, m_X4_open_L5 b0 a1 a2 a3 Q (fun σ => m_X4_open_J33 b0 a1 a2 a3 Q σ) f σ y3)
def m_X4_putBack (b0 : Nat) (σ : St) (a1 : Int32) (a2 : Int32) (Q : St → Prop) : Prop :=
  ((20 ≤ (σ.1 b0 0) →
  Q σ) ∧
 (¬ 20 ≤ (σ.1 b0 0) →
  ((a1 < 0 →
  Q σ) ∧
 (¬ a1 < 0 →
  (((σ.1 b0 0) < a1 →
  Q σ) ∧
 (¬ (σ.1 b0 0) < a1 →
  bI ((σ.1 b0 0) + 1) (fun y27 =>
  m_X4_open b0 σ a1 a2 y27 (fun σ32 =>
  m_X4_replay b0 σ32 y27 (fun r37 σ37 =>
  Q σ37)))))))))
def m_X0_takeBack (b1 : Nat) (σ : St) (Q : St → Prop) : Prop :=
  ((¬ (σ.1 45 0) = 0 →
  sIB σ 45 0 ((σ.1 45 0) - 1) (fun σ15 =>
  (vp_in (σ15.1 45 0) 14 ∧
  (((σ15.1 47 (σ15.1 45 0).toNatClampNeg) = (-1) →
  (vp_in (σ15.1 45 0) 14 ∧
  m_X4_changePlaces b1 σ15 (σ15.1 46 (σ15.1 45 0).toNatClampNeg) (fun r66 σ66 =>
  Q σ66))) ∧
 (¬ (σ15.1 47 (σ15.1 45 0).toNatClampNeg) = (-1) →
  (vp_in (σ15.1 45 0) 14 ∧
  (vp_in (σ15.1 45 0) 14 ∧
  m_X4_putBack b1 σ15 (σ15.1 46 (σ15.1 45 0).toNatClampNeg) (σ15.1 47 (σ15.1 45 0).toNatClampNeg) (fun σ50 =>
  Q σ50)))))))) ∧
 ((σ.1 45 0) = 0 →
  Q σ))
def m_X1_stateOf (σ : St) (a0 : Int32) (Q : Int32 → St → Prop) : Prop :=
  Q (a0 >>> ((4 : Int32) &&& 31)) σ
def m_X1_candidatesOf (σ : St) (a0 : Int32) (Q : Int32 → St → Prop) : Prop :=
  m_X1_stateOf σ a0 (fun r1 σ1 =>
  ((r1 < 2 →
  Q 15 σ1) ∧
 (¬ r1 < 2 →
  Q (a0 &&& 15) σ1)))
def m_X1_ownerOf (σ : St) (a0 : Int32) (Q : Int32 → St → Prop) : Prop :=
  m_X1_stateOf σ a0 (fun r1 σ1 =>
  ((¬ r1 = 1 →
  Q (-9) σ1) ∧
 (r1 = 1 →
  Q (a0 &&& 3) σ1)))
def m_X4_threadAt (b0 : Nat) (σ : St) (a1 : Int32) (Q : Int32 → St → Prop) : Prop :=
  (vp_in a1 20 ∧
  Q (((σ.1 (b0 + 1) a1.toNatClampNeg) >>> ((2 : Int32) &&& 31)) &&& 3) σ)
def m_X4_writesAt (b0 : Nat) (σ : St) (a1 : Int32) (Q : Int32 → St → Prop) : Prop :=
  (vp_in a1 20 ∧
  ((¬ ((σ.1 (b0 + 1) a1.toNatClampNeg) >>> ((4 : Int32) &&& 31)) = 119 →
  Q 0 σ) ∧
 (((σ.1 (b0 + 1) a1.toNatClampNeg) >>> ((4 : Int32) &&& 31)) = 119 →
  Q 1 σ)))
def m_X1_touch_J76 (b1 : Nat) (a0 : Int32) (a2 : Int32) (a3 : Int32) (Q : Int32 → St → Prop) (σ : St) (x6 : Int32) (t0 : Int32) : Prop :=
  (vp_in a2 20 ∧
  Q ((t0 <<< ((4 : Int32) &&& 31)) ||| ((x6 &&& (σ.1 (b1 + 4) a2.toNatClampNeg)) &&& a3)) σ)
def m_X1_touch_J71 (b1 : Nat) (a0 : Int32) (a2 : Int32) (a3 : Int32) (Q : Int32 → St → Prop) (σ : St) (x6 : Int32) : Prop :=
  m_X1_touch_J76 b1 a0 a2 a3 Q σ x6 3
def m_X1_touch_J55 (b1 : Nat) (a0 : Int32) (a2 : Int32) (a3 : Int32) (Q : Int32 → St → Prop) (σ : St) (x4 : Int32) (t0 : Int32) : Prop :=
  ((x4 = 3 →
  m_X1_touch_J71 b1 a0 a2 a3 Q σ t0) ∧
 (¬ x4 = 3 →
  m_X4_writesAt b1 σ a2 (fun r65 σ65 =>
  ((r65 = 0 →
  m_X1_touch_J76 b1 a0 a2 a3 Q σ65 t0 2) ∧
 (¬ r65 = 0 →
  m_X1_touch_J71 b1 a0 a2 a3 Q σ65 t0)))))
def m_X1_touch_J40 (b1 : Nat) (a0 : Int32) (a2 : Int32) (a3 : Int32) (Q : Int32 → St → Prop) (σ : St) (x4 : Int32) : Prop :=
  ((¬ x4 = 1 →
  m_X1_touch_J55 b1 a0 a2 a3 Q σ x4 (a0 &&& 15)) ∧
 (x4 = 1 →
  m_X1_touch_J55 b1 a0 a2 a3 Q σ x4 15))
def m_X1_touch (b1 : Nat) (σ : St) (a0 : Int32) (a2 : Int32) (a3 : Int32) (Q : Int32 → St → Prop) : Prop :=
  m_X1_stateOf σ a0 (fun r1 σ1 =>
  m_X4_threadAt b1 σ1 a2 (fun r8 σ8 =>
  ((¬ r1 = 0 →
  ((¬ r1 = 1 →
  m_X1_touch_J40 b1 a0 a2 a3 Q σ8 r1) ∧
 (r1 = 1 →
  ((¬ (a0 &&& 3) = r8 →
  m_X1_touch_J40 b1 a0 a2 a3 Q σ8 r1) ∧
 ((a0 &&& 3) = r8 →
  Q a0 σ8))))) ∧
 (r1 = 0 →
  Q (16 ||| r8) σ8))))
def m_X4_isTouch (b0 : Nat) (σ : St) (a1 : Int32) (Q : Int32 → St → Prop) : Prop :=
  (vp_in a1 20 ∧
  bI ((σ.1 (b0 + 1) a1.toNatClampNeg) >>> ((4 : Int32) &&& 31)) (fun y8 =>
  ((y8 = 114 →
  Q 1 σ) ∧
 (¬ y8 = 114 →
  ((¬ y8 = 119 →
  Q 0 σ) ∧
 (y8 = 119 →
  Q 1 σ))))))
def m_X4_touchesAt (b0 : Nat) (σ : St) (a1 : Int32) (a2 : Int32) (Q : Int32 → St → Prop) : Prop :=
  m_X4_isTouch b0 σ a1 (fun r2 σ2 =>
  ((r2 = 0 →
  Q 0 σ2) ∧
 (¬ r2 = 0 →
  (vp_in a1 20 ∧
  ((¬ ((σ2.1 (b0 + 1) a1.toNatClampNeg) &&& 3) = a2 →
  Q 0 σ2) ∧
 (((σ2.1 (b0 + 1) a1.toNatClampNeg) &&& 3) = a2 →
  Q 1 σ2))))))
def m_X1_watch_L6b (b0 : Nat) (a1 : Int32) (a2 : Int32) (a3 : Int32) (a4 : Int32) (Q : Int32 → St → Prop) (K55 : St → Int32 → Prop) (Rc : St → Int32 → Int32 → Prop) (σ : St) (x5 : Int32) (x6 : Int32) : Prop :=
  ((a2 ≤ x6 →
  K55 σ x5) ∧
 (¬ a2 ≤ x6 →
  (((σ.1 b0 0) ≤ x6 →
  K55 σ x5) ∧
 (¬ (σ.1 b0 0) ≤ x6 →
  ((x6 = a3 →
  Rc σ x5 (x6 + 1)) ∧
 (¬ x6 = a3 →
  m_X4_touchesAt b0 σ x6 a1 (fun r31 σ31 =>
  ((r31 = 0 →
  Rc σ31 x5 (x6 + 1)) ∧
 (¬ r31 = 0 →
  m_X1_touch b0 σ31 x5 x6 a4 (fun r44 σ44 =>
  Rc σ44 r44 (x6 + 1)))))))))))
def m_X1_watch_L6 (b0 : Nat) (a1 : Int32) (a2 : Int32) (a3 : Int32) (a4 : Int32) (Q : Int32 → St → Prop) (K55 : St → Int32 → Prop) : Nat → St → Int32 → Int32 → Prop
  | 0 => fun _ _ _ => False
  | f + 1 => m_X1_watch_L6b b0 a1 a2 a3 a4 Q K55 (m_X1_watch_L6 b0 a1 a2 a3 a4 Q K55 f)
def m_X1_watch_J55 (b0 : Nat) (a1 : Int32) (a2 : Int32) (a3 : Int32) (a4 : Int32) (Q : Int32 → St → Prop) (σ : St) (x5 : Int32) : Prop :=
  Q x5 σ
def m_X1_watch (b0 : Nat) (σ : St) (a1 : Int32) (a2 : Int32) (a3 : Int32) (a4 : Int32) (Q : Int32 → St → Prop) : Prop :=
  ∃ f, m_X1_watch_L6 b0 a1 a2 a3 a4 Q (fun σ x5 => m_X1_watch_J55 b0 a1 a2 a3 a4 Q σ x5) f σ 0 0
def m_X1_flaggedBy_L5b (b0 : Nat) (a1 : Int32) (a2 : Int32) (Q : Int32 → St → Prop) (K46 : St → Int32 → Prop) (K55 : St → Prop) (Rc : St → Int32 → Int32 → Prop) (σ : St) (x3 : Int32) (x4 : Int32) : Prop :=
  ((a2 ≤ x4 →
  K55 σ) ∧
 (¬ a2 ≤ x4 →
  (((σ.1 b0 0) ≤ x4 →
  K55 σ) ∧
 (¬ (σ.1 b0 0) ≤ x4 →
  m_X4_touchesAt b0 σ x4 a1 (fun r24 σ24 =>
  ((r24 = 0 →
  ((¬ x3 = 48 →
  Rc σ24 x3 (x4 + 1)) ∧
 (x3 = 48 →
  K46 σ24 x4))) ∧
 (¬ r24 = 0 →
  m_X1_touch b0 σ24 x3 x4 15 (fun r36 σ36 =>
  ((¬ r36 = 48 →
  Rc σ36 r36 (x4 + 1)) ∧
 (r36 = 48 →
  K46 σ36 x4))))))))))
def m_X1_flaggedBy_L5 (b0 : Nat) (a1 : Int32) (a2 : Int32) (Q : Int32 → St → Prop) (K46 : St → Int32 → Prop) (K55 : St → Prop) : Nat → St → Int32 → Int32 → Prop
  | 0 => fun _ _ _ => False
  | f + 1 => m_X1_flaggedBy_L5b b0 a1 a2 Q K46 K55 (m_X1_flaggedBy_L5 b0 a1 a2 Q K46 K55 f)
def m_X1_flaggedBy_J46 (b0 : Nat) (a1 : Int32) (a2 : Int32) (Q : Int32 → St → Prop) (σ : St) (x4 : Int32) : Prop :=
  Q x4 σ
def m_X1_flaggedBy_J55 (b0 : Nat) (a1 : Int32) (a2 : Int32) (Q : Int32 → St → Prop) (σ : St) : Prop :=
  Q (-9) σ
def m_X1_flaggedBy (b0 : Nat) (σ : St) (a1 : Int32) (a2 : Int32) (Q : Int32 → St → Prop) : Prop :=
  ∃ f, m_X1_flaggedBy_L5 b0 a1 a2 Q (fun σ x4 => m_X1_flaggedBy_J46 b0 a1 a2 Q σ x4) (fun σ => m_X1_flaggedBy_J55 b0 a1 a2 Q σ) f σ 0 0
def m_X1_flaggedBits_L4b (b0 : Nat) (a1 : Int32) (Q : Int32 → St → Prop) (K38 : St → Int32 → Prop) (Rc : St → Int32 → Int32 → Prop) (σ : St) (x2 : Int32) (x3 : Int32) : Prop :=
  ((4 ≤ x3 →
  K38 σ x2) ∧
 (¬ 4 ≤ x3 →
  m_X1_watch b0 σ x3 (σ.1 b0 0) (-9) a1 (fun r18 σ18 =>
  ((¬ r18 = 48 →
  Rc σ18 x2 (x3 + 1)) ∧
 (r18 = 48 →
  bI (x2 ||| ((1 : Int32) <<< (x3 &&& 31))) (fun y31 =>
  Rc σ18 y31 (x3 + 1)))))))
def m_X1_flaggedBits_L4 (b0 : Nat) (a1 : Int32) (Q : Int32 → St → Prop) (K38 : St → Int32 → Prop) : Nat → St → Int32 → Int32 → Prop
  | 0 => fun _ _ _ => False
  | f + 1 => m_X1_flaggedBits_L4b b0 a1 Q K38 (m_X1_flaggedBits_L4 b0 a1 Q K38 f)
def m_X1_flaggedBits_J38 (b0 : Nat) (a1 : Int32) (Q : Int32 → St → Prop) (σ : St) (x2 : Int32) : Prop :=
  Q x2 σ
def m_X1_flaggedBits (b0 : Nat) (σ : St) (a1 : Int32) (Q : Int32 → St → Prop) : Prop :=
  ∃ f, m_X1_flaggedBits_L4 b0 a1 Q (fun σ x2 => m_X1_flaggedBits_J38 b0 a1 Q σ x2) f σ 0 0
def m_J6_bitCount_0f7a4 (σ : St) (a0 : Int32) (Q : Int32 → St → Prop) : Prop :=
  bI (a0 - (((a0.toUInt32 >>> ((1 : Int32).toUInt32 &&& Int32.toUInt32 31)).toInt32) &&& 1431655765)) (fun y9 =>
  bI ((y9 &&& 858993459) + (((y9.toUInt32 >>> ((2 : Int32).toUInt32 &&& Int32.toUInt32 31)).toInt32) &&& 858993459)) (fun y23 =>
  bI ((y23 + ((y23.toUInt32 >>> ((4 : Int32).toUInt32 &&& Int32.toUInt32 31)).toInt32)) &&& 252645135) (fun y33 =>
  bI (y33 + ((y33.toUInt32 >>> ((8 : Int32).toUInt32 &&& Int32.toUInt32 31)).toInt32)) (fun y40 =>
  bI (y40 + ((y40.toUInt32 >>> ((16 : Int32).toUInt32 &&& Int32.toUInt32 31)).toInt32)) (fun y47 =>
  Q (y47 &&& 63) σ)))))
def m_X1_flaggedCount (b0 : Nat) (σ : St) (a1 : Int32) (Q : Int32 → St → Prop) : Prop :=
  m_X1_flaggedBits b0 σ a1 (fun r2 σ2 =>
  m_J6_bitCount_0f7a4 σ2 r2 (fun r5 σ5 =>
  Q r5 σ5))
def m_X1_touches_L5b (b0 : Nat) (a1 : Int32) (a2 : Int32) (Q : Int32 → St → Prop) (K39 : St → Int32 → Prop) (Rc : St → Int32 → Int32 → Prop) (σ : St) (x3 : Int32) (x4 : Int32) : Prop :=
  ((a2 ≤ x4 →
  K39 σ x3) ∧
 (¬ a2 ≤ x4 →
  (((σ.1 b0 0) ≤ x4 →
  K39 σ x3) ∧
 (¬ (σ.1 b0 0) ≤ x4 →
  m_X4_touchesAt b0 σ x4 a1 (fun r24 σ24 =>
  ((r24 = 0 →
  Rc σ24 x3 (x4 + 1)) ∧
 (¬ r24 = 0 →
  Rc σ24 (x3 + 1) (x4 + 1))))))))
def m_X1_touches_L5 (b0 : Nat) (a1 : Int32) (a2 : Int32) (Q : Int32 → St → Prop) (K39 : St → Int32 → Prop) : Nat → St → Int32 → Int32 → Prop
  | 0 => fun _ _ _ => False
  | f + 1 => m_X1_touches_L5b b0 a1 a2 Q K39 (m_X1_touches_L5 b0 a1 a2 Q K39 f)
def m_X1_touches_J39 (b0 : Nat) (a1 : Int32) (a2 : Int32) (Q : Int32 → St → Prop) (σ : St) (x3 : Int32) : Prop :=
  Q x3 σ
def m_X1_touches (b0 : Nat) (σ : St) (a1 : Int32) (a2 : Int32) (Q : Int32 → St → Prop) : Prop :=
  ∃ f, m_X1_touches_L5 b0 a1 a2 Q (fun σ x3 => m_X1_touches_J39 b0 a1 a2 Q σ x3) f σ 0 0
def m_X4_isAhead (b0 : Nat) (σ : St) (a1 : Int32) (a2 : Int32) (Q : Int32 → St → Prop) : Prop :=
  (vp_in a2 20 ∧
  ((¬ (((σ.1 (b0 + 5) a2.toNatClampNeg) >>> (a1 &&& 31)) &&& 1) = 1 →
  Q 0 σ) ∧
 ((((σ.1 (b0 + 5) a2.toNatClampNeg) >>> (a1 &&& 31)) &&& 1) = 1 →
  Q 1 σ)))
def m_X1_meet_J47 (b0 : Nat) (a1 : Int32) (a2 : Int32) (a3 : Int32) (Q : Int32 → St → Prop) (σ : St) : Prop :=
  m_X4_isAhead b0 σ a2 a3 (fun r50 σ50 =>
  ((¬ r50 = 0 →
  Q 0 σ50) ∧
 (r50 = 0 →
  (vp_in a2 20 ∧
  (vp_in a3 20 ∧
  ((¬ ((σ50.1 (b0 + 4) a2.toNatClampNeg) &&& (σ50.1 (b0 + 4) a3.toNatClampNeg)) = 0 →
  Q 0 σ50) ∧
 (((σ50.1 (b0 + 4) a2.toNatClampNeg) &&& (σ50.1 (b0 + 4) a3.toNatClampNeg)) = 0 →
  Q 1 σ50)))))))
def m_X1_meet (b0 : Nat) (σ : St) (a1 : Int32) (a2 : Int32) (a3 : Int32) (Q : Int32 → St → Prop) : Prop :=
  m_X4_touchesAt b0 σ a2 a1 (fun r3 σ3 =>
  ((r3 = 0 →
  Q 0 σ3) ∧
 (¬ r3 = 0 →
  m_X4_touchesAt b0 σ3 a3 a1 (fun r12 σ12 =>
  ((r12 = 0 →
  Q 0 σ12) ∧
 (¬ r12 = 0 →
  m_X4_threadAt b0 σ12 a2 (fun r20 σ20 =>
  m_X4_threadAt b0 σ20 a3 (fun r25 σ25 =>
  ((r20 = r25 →
  Q 0 σ25) ∧
 (¬ r20 = r25 →
  m_X4_writesAt b0 σ25 a2 (fun r33 σ33 =>
  ((¬ r33 = 0 →
  m_X1_meet_J47 b0 a1 a2 a3 Q σ33) ∧
 (r33 = 0 →
  m_X4_writesAt b0 σ33 a3 (fun r41 σ41 =>
  ((r41 = 0 →
  Q 0 σ41) ∧
 (¬ r41 = 0 →
  m_X1_meet_J47 b0 a1 a2 a3 Q σ41))))))))))))))))
def m_X1_meetingCount_L17b (b0 : Nat) (a1 : Int32) (Q : Int32 → St → Prop) (x3 : Int32) (K46 : St → Int32 → Prop) (Rc : St → Int32 → Int32 → Prop) (σ : St) (x2 : Int32) (x4 : Int32) : Prop :=
  (((σ.1 b0 0) ≤ x4 →
  K46 σ x2) ∧
 (¬ (σ.1 b0 0) ≤ x4 →
  m_X1_meet b0 σ a1 x3 x4 (fun r31 σ31 =>
  ((r31 = 0 →
  Rc σ31 x2 (x4 + 1)) ∧
 (¬ r31 = 0 →
  Rc σ31 (x2 + 1) (x4 + 1))))))
def m_X1_meetingCount_L17 (b0 : Nat) (a1 : Int32) (Q : Int32 → St → Prop) (x3 : Int32) (K46 : St → Int32 → Prop) : Nat → St → Int32 → Int32 → Prop
  | 0 => fun _ _ _ => False
  | f + 1 => m_X1_meetingCount_L17b b0 a1 Q x3 K46 (m_X1_meetingCount_L17 b0 a1 Q x3 K46 f)
def m_X1_meetingCount_J46 (b0 : Nat) (a1 : Int32) (Q : Int32 → St → Prop) (K52 : St → Int32 → Prop) (Rc : St → Int32 → Int32 → Prop) (σ : St) (x2 : Int32) (x3 : Int32) : Prop :=
  Rc σ x2 (x3 + 1)
def m_X1_meetingCount_L4b (b0 : Nat) (a1 : Int32) (Q : Int32 → St → Prop) (K52 : St → Int32 → Prop) (Rc : St → Int32 → Int32 → Prop) (σ : St) (x2 : Int32) (x3 : Int32) : Prop :=
  (((σ.1 b0 0) ≤ x3 →
  K52 σ x2) ∧
 (¬ (σ.1 b0 0) ≤ x3 →
  bI (x3 + 1) (fun y15 =>
  ∃ f, m_X1_meetingCount_L17 b0 a1 Q x3 (fun σ x2 => m_X1_meetingCount_J46 b0 a1 Q K52 Rc σ x2 x3) f σ x2 y15)))
def m_X1_meetingCount_L4 (b0 : Nat) (a1 : Int32) (Q : Int32 → St → Prop) (K52 : St → Int32 → Prop) : Nat → St → Int32 → Int32 → Prop
  | 0 => fun _ _ _ => False
  | f + 1 => m_X1_meetingCount_L4b b0 a1 Q K52 (m_X1_meetingCount_L4 b0 a1 Q K52 f)
def m_X1_meetingCount_J52 (b0 : Nat) (a1 : Int32) (Q : Int32 → St → Prop) (σ : St) (x2 : Int32) : Prop :=
  Q x2 σ
def m_X1_meetingCount (b0 : Nat) (σ : St) (a1 : Int32) (Q : Int32 → St → Prop) : Prop :=
  ∃ f, m_X1_meetingCount_L4 b0 a1 Q (fun σ x2 => m_X1_meetingCount_J52 b0 a1 Q σ x2) f σ 0 0
def m_X1_leastMeeting_L14b (b0 : Nat) (a1 : Int32) (Q : Int32 → St → Prop) (x2 : Int32) (K32 : St → Int32 → Prop) (K45 : St → Prop) (Rc : St → Int32 → Prop) (σ : St) (x3 : Int32) : Prop :=
  (((σ.1 b0 0) ≤ x3 →
  K45 σ) ∧
 (¬ (σ.1 b0 0) ≤ x3 →
  m_X1_meet b0 σ a1 x2 x3 (fun r26 σ26 =>
  ((r26 = 0 →
  Rc σ26 (x3 + 1)) ∧
 (¬ r26 = 0 →
  K32 σ26 x3)))))
def m_X1_leastMeeting_L14 (b0 : Nat) (a1 : Int32) (Q : Int32 → St → Prop) (x2 : Int32) (K32 : St → Int32 → Prop) (K45 : St → Prop) : Nat → St → Int32 → Prop
  | 0 => fun _ _ => False
  | f + 1 => m_X1_leastMeeting_L14b b0 a1 Q x2 K32 K45 (m_X1_leastMeeting_L14 b0 a1 Q x2 K32 K45 f)
def m_X1_leastMeeting_J32 (b0 : Nat) (a1 : Int32) (Q : Int32 → St → Prop) (K51 : St → Prop) (Rc : St → Int32 → Prop) (σ : St) (x2 : Int32) (x3 : Int32) : Prop :=
  Q ((100 * x2) + x3) σ
def m_X1_leastMeeting_J45 (b0 : Nat) (a1 : Int32) (Q : Int32 → St → Prop) (K51 : St → Prop) (Rc : St → Int32 → Prop) (σ : St) (x2 : Int32) : Prop :=
  Rc σ (x2 + 1)
def m_X1_leastMeeting_L2b (b0 : Nat) (a1 : Int32) (Q : Int32 → St → Prop) (K51 : St → Prop) (Rc : St → Int32 → Prop) (σ : St) (x2 : Int32) : Prop :=
  (((σ.1 b0 0) ≤ x2 →
  K51 σ) ∧
 (¬ (σ.1 b0 0) ≤ x2 →
  bI (x2 + 1) (fun y13 =>
  ∃ f, m_X1_leastMeeting_L14 b0 a1 Q x2 (fun σ x3 => m_X1_leastMeeting_J32 b0 a1 Q K51 Rc σ x2 x3) (fun σ => m_X1_leastMeeting_J45 b0 a1 Q K51 Rc σ x2) f σ y13)))
def m_X1_leastMeeting_L2 (b0 : Nat) (a1 : Int32) (Q : Int32 → St → Prop) (K51 : St → Prop) : Nat → St → Int32 → Prop
  | 0 => fun _ _ => False
  | f + 1 => m_X1_leastMeeting_L2b b0 a1 Q K51 (m_X1_leastMeeting_L2 b0 a1 Q K51 f)
def m_X1_leastMeeting_J51 (b0 : Nat) (a1 : Int32) (Q : Int32 → St → Prop) (σ : St) : Prop :=
  Q (-9) σ
def m_X1_leastMeeting (b0 : Nat) (σ : St) (a1 : Int32) (Q : Int32 → St → Prop) : Prop :=
  ∃ f, m_X1_leastMeeting_L2 b0 a1 Q (fun σ => m_X1_leastMeeting_J51 b0 a1 Q σ) f σ 0
def m_X1_meetingBits_L4b (b0 : Nat) (Q : Int32 → St → Prop) (K31 : St → Int32 → Prop) (Rc : St → Int32 → Int32 → Prop) (σ : St) (x1 : Int32) (x2 : Int32) : Prop :=
  ((4 ≤ x2 →
  K31 σ x1) ∧
 (¬ 4 ≤ x2 →
  m_X1_leastMeeting b0 σ x2 (fun r11 σ11 =>
  ((r11 = (-9) →
  Rc σ11 x1 (x2 + 1)) ∧
 (¬ r11 = (-9) →
  bI (x1 ||| ((1 : Int32) <<< (x2 &&& 31))) (fun y24 =>
  Rc σ11 y24 (x2 + 1)))))))
def m_X1_meetingBits_L4 (b0 : Nat) (Q : Int32 → St → Prop) (K31 : St → Int32 → Prop) : Nat → St → Int32 → Int32 → Prop
  | 0 => fun _ _ _ => False
  | f + 1 => m_X1_meetingBits_L4b b0 Q K31 (m_X1_meetingBits_L4 b0 Q K31 f)
def m_X1_meetingBits_J31 (b0 : Nat) (Q : Int32 → St → Prop) (σ : St) (x1 : Int32) : Prop :=
  Q x1 σ
def m_X1_meetingBits (b0 : Nat) (σ : St) (Q : Int32 → St → Prop) : Prop :=
  ∃ f, m_X1_meetingBits_L4 b0 Q (fun σ x1 => m_X1_meetingBits_J31 b0 Q σ x1) f σ 0 0
def m_X2_ofFlagged (σ : St) (Q : Int64 → St → Prop) : Prop :=
  Q (σ.2 59 ((48 : Int32).toNatClampNeg)) σ
def m_J7_fill_d0a16_L6b (q0 : Nat) (n0 : Nat) (a1 : Int64) (Q : St → Prop) (x4 : Int32) (K22 : St → Prop) (Rc : St → Int32 → Prop) (σ : St) (x3 : Int32) : Prop :=
  ((x4 ≤ x3 →
  K22 σ) ∧
 (¬ x4 ≤ x3 →
  (vp_in x3 n0 ∧
  sLB σ q0 (x3.toNatClampNeg) a1 (fun σ15 =>
  Rc σ15 (x3 + 1)))))
def m_J7_fill_d0a16_L6 (q0 : Nat) (n0 : Nat) (a1 : Int64) (Q : St → Prop) (x4 : Int32) (K22 : St → Prop) : Nat → St → Int32 → Prop
  | 0 => fun _ _ => False
  | f + 1 => m_J7_fill_d0a16_L6b q0 n0 a1 Q x4 K22 (m_J7_fill_d0a16_L6 q0 n0 a1 Q x4 K22 f)
def m_J7_fill_d0a16_J22 (q0 : Nat) (n0 : Nat) (a1 : Int64) (Q : St → Prop) (σ : St) : Prop :=
  Q σ
def m_J7_fill_d0a16 (q0 : Nat) (n0 : Nat) (σ : St) (a1 : Int64) (Q : St → Prop) : Prop :=
  bI (Int32.ofNat n0) (fun y4 =>
  ∃ f, m_J7_fill_d0a16_L6 q0 n0 a1 Q y4 (fun σ => m_J7_fill_d0a16_J22 q0 n0 a1 Q σ) f σ 0)
def m_X2_spreadTouch_L11b (b1 : Nat) (a2 : Int32) (a3 : Int32) (Q : St → Prop) (K93 : St → Prop) (Rc : St → Int32 → Prop) (σ : St) (x4 : Int32) : Prop :=
  ((64 ≤ x4 →
  K93 σ) ∧
 (¬ 64 ≤ x4 →
  (vp_in x4 64 ∧
  (((lg_cmp (σ.2 59 x4.toNatClampNeg) 0) = 0 →
  Rc σ (x4 + 1)) ∧
 (¬ (lg_cmp (σ.2 59 x4.toNatClampNeg) 0) = 0 →
  (vp_in x4 64 ∧
  (vp_in x4 64 ∧
  (vp_in x4 64 ∧
  sLB σ 60 (x4.toNatClampNeg) ((σ.2 60 x4.toNatClampNeg) + ((σ.2 59 x4.toNatClampNeg) * (a3.toInt64))) (fun σ49 =>
  m_X1_touch b1 σ49 x4 a2 15 (fun r56 σ56 =>
  (vp_in (r56 &&& 63) 64 ∧
  (vp_in x4 64 ∧
  (vp_in (r56 &&& 63) 64 ∧
  sLB σ56 60 ((r56 &&& 63).toNatClampNeg) ((σ56.2 60 (r56 &&& 63).toNatClampNeg) + ((σ56.2 59 x4.toNatClampNeg) * ((10 - a3).toInt64))) (fun σ86 =>
  Rc σ86 (x4 + 1)))))))))))))))
def m_X2_spreadTouch_L11 (b1 : Nat) (a2 : Int32) (a3 : Int32) (Q : St → Prop) (K93 : St → Prop) : Nat → St → Int32 → Prop
  | 0 => fun _ _ => False
  | f + 1 => m_X2_spreadTouch_L11b b1 a2 a3 Q K93 (m_X2_spreadTouch_L11 b1 a2 a3 Q K93 f)
def m_X2_spreadTouch_J93 (b1 : Nat) (a2 : Int32) (a3 : Int32) (Q : St → Prop) (σ : St) : Prop :=
  bS (sLf σ 59 (va_cpy (σ.2 60) (σ.2 59) (0 : Int32).toNatClampNeg (0 : Int32).toNatClampNeg (64 : Int32).toNatClampNeg)) (fun σ105 =>
  Q σ105)
def m_X2_spreadTouch (b1 : Nat) (σ : St) (a2 : Int32) (a3 : Int32) (Q : St → Prop) : Prop :=
  m_J7_fill_d0a16 60 64 σ 0 (fun σ5 =>
  ∃ f, m_X2_spreadTouch_L11 b1 a2 a3 Q (fun σ => m_X2_spreadTouch_J93 b1 a2 a3 Q σ) f σ5 0)
def m_X2_spread_L23b (b1 : Nat) (a2 : Int32) (a3 : Int32) (Q : St → Prop) (K68 : St → Prop) (Rc : St → Int32 → Prop) (σ : St) (x4 : Int32) : Prop :=
  (((σ.1 b1 0) ≤ x4 →
  K68 σ) ∧
 (¬ (σ.1 b1 0) ≤ x4 →
  m_X4_touchesAt b1 σ x4 a2 (fun r36 σ36 =>
  ((r36 = 0 →
  Rc σ36 (x4 + 1)) ∧
 (¬ r36 = 0 →
  m_X2_spreadTouch b1 σ36 x4 a3 (fun σ47 =>
  sLB σ47 58 0 ((σ47.2 58 0) * 10) (fun σ59 =>
  Rc σ59 (x4 + 1))))))))
def m_X2_spread_L23 (b1 : Nat) (a2 : Int32) (a3 : Int32) (Q : St → Prop) (K68 : St → Prop) : Nat → St → Int32 → Prop
  | 0 => fun _ _ => False
  | f + 1 => m_X2_spread_L23b b1 a2 a3 Q K68 (m_X2_spread_L23 b1 a2 a3 Q K68 f)
def m_X2_spread_J68 (b1 : Nat) (a2 : Int32) (a3 : Int32) (Q : St → Prop) (σ : St) : Prop :=
  Q σ
def m_X2_spread (b1 : Nat) (σ : St) (a2 : Int32) (a3 : Int32) (Q : St → Prop) : Prop :=
  m_J7_fill_d0a16 59 64 σ 0 (fun σ5 =>
  (vp_in 0 64 ∧
  sLB σ5 59 ((0 : Int32).toNatClampNeg) 1 (fun σ14 =>
  sLB σ14 58 0 1 (fun σ17 =>
  ∃ f, m_X2_spread_L23 b1 a2 a3 Q (fun σ => m_X2_spread_J68 b1 a2 a3 Q σ) f σ17 0))))
def m_X4_aboutAt (b0 : Nat) (σ : St) (a1 : Int32) (Q : Int32 → St → Prop) : Prop :=
  (vp_in a1 20 ∧
  Q ((σ.1 (b0 + 1) a1.toNatClampNeg) &&& 3) σ)
def m_X4_heldAt (b0 : Nat) (σ : St) (a1 : Int32) (Q : Int32 → St → Prop) : Prop :=
  (vp_in a1 20 ∧
  (vp_in a1 20 ∧
  Q ((σ.1 (b0 + 2) a1.toNatClampNeg) ||| (σ.1 (b0 + 3) a1.toNatClampNeg)) σ))
def m_X4_takesAt (b0 : Nat) (σ : St) (a1 : Int32) (Q : Int32 → St → Prop) : Prop :=
  (vp_in a1 20 ∧
  bI ((σ.1 (b0 + 1) a1.toNatClampNeg) >>> ((4 : Int32) &&& 31)) (fun y8 =>
  ((y8 = 108 →
  Q 1 σ) ∧
 (¬ y8 = 108 →
  ((¬ y8 = 115 →
  Q 0 σ) ∧
 (y8 = 115 →
  Q 1 σ))))))
def m_X3_collect_L17b (b1 : Nat) (Q : St → Prop) (x2 : Int32) (K102 : St → Prop) (Rc : St → Int32 → Prop) (σ : St) (x3 : Int32) : Prop :=
  ((4 ≤ x3 →
  K102 σ) ∧
 (¬ 4 ≤ x3 →
  m_X4_takesAt b1 σ x2 (fun r24 σ24 =>
  ((r24 = 0 →
  Rc σ24 (x3 + 1)) ∧
 (¬ r24 = 0 →
  m_X4_heldAt b1 σ24 x2 (fun r32 σ32 =>
  ((¬ ((r32 >>> (x3 &&& 31)) &&& 1) = 1 →
  Rc σ32 (x3 + 1)) ∧
 (((r32 >>> (x3 &&& 31)) &&& 1) = 1 →
  ((80 ≤ (σ32.1 52 0) →
  Rc σ32 (x3 + 1)) ∧
 (¬ 80 ≤ (σ32.1 52 0) →
  (vp_in (σ32.1 52 0) 80 ∧
  sIB σ32 53 ((σ32.1 52 0).toNatClampNeg) x2 (fun σ61 =>
  (vp_in (σ61.1 52 0) 80 ∧
  sIB σ61 54 ((σ61.1 52 0).toNatClampNeg) x3 (fun σ71 =>
  m_X4_aboutAt b1 σ71 x2 (fun r82 σ82 =>
  (vp_in (σ71.1 52 0) 80 ∧
  sIB σ82 55 ((σ71.1 52 0).toNatClampNeg) r82 (fun σ85 =>
  sIB σ85 52 0 ((σ85.1 52 0) + 1) (fun σ93 =>
  Rc σ93 (x3 + 1)))))))))))))))))))
def m_X3_collect_L17 (b1 : Nat) (Q : St → Prop) (x2 : Int32) (K102 : St → Prop) : Nat → St → Int32 → Prop
  | 0 => fun _ _ => False
  | f + 1 => m_X3_collect_L17b b1 Q x2 K102 (m_X3_collect_L17 b1 Q x2 K102 f)
def m_X3_collect_J102 (b1 : Nat) (Q : St → Prop) (K108 : St → Prop) (Rc : St → Int32 → Prop) (σ : St) (x2 : Int32) : Prop :=
  Rc σ (x2 + 1)
def m_X3_collect_L7b (b1 : Nat) (Q : St → Prop) (K108 : St → Prop) (Rc : St → Int32 → Prop) (σ : St) (x2 : Int32) : Prop :=
  (((σ.1 b1 0) ≤ x2 →
  K108 σ) ∧
 (¬ (σ.1 b1 0) ≤ x2 →
  ∃ f, m_X3_collect_L17 b1 Q x2 (fun σ => m_X3_collect_J102 b1 Q K108 Rc σ x2) f σ 0))
def m_X3_collect_L7 (b1 : Nat) (Q : St → Prop) (K108 : St → Prop) : Nat → St → Int32 → Prop
  | 0 => fun _ _ => False
  | f + 1 => m_X3_collect_L7b b1 Q K108 (m_X3_collect_L7 b1 Q K108 f)
def m_X3_collect_J108 (b1 : Nat) (Q : St → Prop) (σ : St) : Prop :=
  Q σ
def m_X3_collect (b1 : Nat) (σ : St) (Q : St → Prop) : Prop :=
  sIB σ 52 0 0 (fun σ2 =>
  ∃ f, m_X3_collect_L7 b1 Q (fun σ => m_X3_collect_J108 b1 Q σ) f σ2 0)
def m_X3_between_L5b (a1 : Int32) (a2 : Int32) (Q : Int32 → St → Prop) (K45 : St → Int32 → Prop) (Rc : St → Int32 → Int32 → Prop) (σ : St) (x3 : Int32) (x4 : Int32) : Prop :=
  (((σ.1 52 0) ≤ x4 →
  K45 σ x3) ∧
 (¬ (σ.1 52 0) ≤ x4 →
  (vp_in x4 80 ∧
  ((¬ (σ.1 54 x4.toNatClampNeg) = a1 →
  Rc σ x3 (x4 + 1)) ∧
 ((σ.1 54 x4.toNatClampNeg) = a1 →
  (vp_in x4 80 ∧
  ((¬ (σ.1 55 x4.toNatClampNeg) = a2 →
  Rc σ x3 (x4 + 1)) ∧
 ((σ.1 55 x4.toNatClampNeg) = a2 →
  Rc σ (x3 + 1) (x4 + 1)))))))))
def m_X3_between_L5 (a1 : Int32) (a2 : Int32) (Q : Int32 → St → Prop) (K45 : St → Int32 → Prop) : Nat → St → Int32 → Int32 → Prop
  | 0 => fun _ _ _ => False
  | f + 1 => m_X3_between_L5b a1 a2 Q K45 (m_X3_between_L5 a1 a2 Q K45 f)
def m_X3_between_J45 (a1 : Int32) (a2 : Int32) (Q : Int32 → St → Prop) (σ : St) (x3 : Int32) : Prop :=
  Q x3 σ
def m_X3_between (σ : St) (a1 : Int32) (a2 : Int32) (Q : Int32 → St → Prop) : Prop :=
  ∃ f, m_X3_between_L5 a1 a2 Q (fun σ x3 => m_X3_between_J45 a1 a2 Q σ x3) f σ 0 0
def m_X3_feasible_L4b (Q : Int32 → St → Prop) (K28 : St → Int32 → Prop) (Rc : St → Int32 → Int32 → Prop) (σ : St) (x1 : Int32) (x2 : Int32) : Prop :=
  ((4 < x2 →
  K28 σ x1) ∧
 (¬ 4 < x2 →
  (vp_in ((x2 * 4) + 3) 20 ∧
  bI (x1 + (σ.1 56 ((x2 * 4) + 3).toNatClampNeg)) (fun y21 =>
  Rc σ y21 (x2 + 1)))))
def m_X3_feasible_L4 (Q : Int32 → St → Prop) (K28 : St → Int32 → Prop) : Nat → St → Int32 → Int32 → Prop
  | 0 => fun _ _ _ => False
  | f + 1 => m_X3_feasible_L4b Q K28 (m_X3_feasible_L4 Q K28 f)
def m_X3_feasible_J28 (Q : Int32 → St → Prop) (σ : St) (x1 : Int32) : Prop :=
  Q x1 σ
def m_X3_feasible (σ : St) (Q : Int32 → St → Prop) : Prop :=
  ∃ f, m_X3_feasible_L4 Q (fun σ x1 => m_X3_feasible_J28 Q σ x1) f σ 0 2
def m_X4_signAt (b0 : Nat) (σ : St) (a1 : Int32) (Q : Int32 → St → Prop) : Prop :=
  (vp_in a1 20 ∧
  Q ((σ.1 (b0 + 1) a1.toNatClampNeg) >>> ((4 : Int32) &&& 31)) σ)
def m_X3_links_J68 (b1 : Nat) (a2 : Int32) (a3 : Int32) (Q : Int32 → St → Prop) (σ : St) (x4 : Int32) (t0 : Int32) : Prop :=
  ((x4 = 0 →
  Q 1 σ) ∧
 (¬ x4 = 0 →
  ((¬ t0 = 0 →
  Q 0 σ) ∧
 (t0 = 0 →
  Q 1 σ))))
def m_X3_links_J37 (b1 : Nat) (a2 : Int32) (a3 : Int32) (Q : Int32 → St → Prop) (σ : St) (t0 : Int32) : Prop :=
  (vp_in a3 80 ∧
  (vp_in (σ.1 53 a3.toNatClampNeg) 20 ∧
  (vp_in a3 80 ∧
  ((¬ (((σ.1 (b1 + 3) (σ.1 53 a3.toNatClampNeg).toNatClampNeg) >>> ((σ.1 54 a3.toNatClampNeg) &&& 31)) &&& 1) = 1 →
  m_X3_links_J68 b1 a2 a3 Q σ t0 0) ∧
 ((((σ.1 (b1 + 3) (σ.1 53 a3.toNatClampNeg).toNatClampNeg) >>> ((σ.1 54 a3.toNatClampNeg) &&& 31)) &&& 1) = 1 →
  m_X3_links_J68 b1 a2 a3 Q σ t0 1)))))
def m_X3_links (b1 : Nat) (σ : St) (a2 : Int32) (a3 : Int32) (Q : Int32 → St → Prop) : Prop :=
  (vp_in a2 80 ∧
  (vp_in a3 80 ∧
  (((σ.1 55 a2.toNatClampNeg) = (σ.1 54 a3.toNatClampNeg) →
  (vp_in a2 80 ∧
  m_X4_signAt b1 σ (σ.1 53 a2.toNatClampNeg) (fun r24 σ24 =>
  ((¬ r24 = 115 →
  m_X3_links_J37 b1 a2 a3 Q σ24 0) ∧
 (r24 = 115 →
  m_X3_links_J37 b1 a2 a3 Q σ24 1))))) ∧
 (¬ (σ.1 55 a2.toNatClampNeg) = (σ.1 54 a3.toNatClampNeg) →
  Q 0 σ))))
def m_X3_tallyRing_J99 (b1 : Nat) (a2 : Int32) (Q : St → Prop) (x5 : Int32) (x6 : Int32) (x7 : Int32) (K129 : St → Int32 → Int32 → Prop) (Rc : St → Int32 → Int32 → Int32 → Prop) (σ : St) (x4 : Int32) (x8 : Int32) (x9 : Int32) (t0 : Int32) : Prop :=
  ((¬ x4 = 0 →
  Rc σ t0 1 (x8 + 1)) ∧
 (x4 = 0 →
  m_X4_isAhead b1 σ x7 x9 (fun r110 σ110 =>
  ((r110 = 0 →
  Rc σ110 t0 0 (x8 + 1)) ∧
 (¬ r110 = 0 →
  Rc σ110 t0 1 (x8 + 1))))))
def m_X3_tallyRing_J94 (b1 : Nat) (a2 : Int32) (Q : St → Prop) (x5 : Int32) (x6 : Int32) (x7 : Int32) (K129 : St → Int32 → Int32 → Prop) (Rc : St → Int32 → Int32 → Int32 → Prop) (σ : St) (x4 : Int32) (x8 : Int32) (x9 : Int32) : Prop :=
  m_X3_tallyRing_J99 b1 a2 Q x5 x6 x7 K129 Rc σ x4 x8 x9 1
def m_X3_tallyRing_J98 (b1 : Nat) (a2 : Int32) (Q : St → Prop) (x5 : Int32) (x6 : Int32) (x7 : Int32) (K129 : St → Int32 → Int32 → Prop) (Rc : St → Int32 → Int32 → Int32 → Prop) (σ : St) (x4 : Int32) (x8 : Int32) (x9 : Int32) : Prop :=
  m_X3_tallyRing_J99 b1 a2 Q x5 x6 x7 K129 Rc σ x4 x8 x9 0
def m_X3_tallyRing_L46b (b1 : Nat) (a2 : Int32) (Q : St → Prop) (x5 : Int32) (x6 : Int32) (x7 : Int32) (K129 : St → Int32 → Int32 → Prop) (Rc : St → Int32 → Int32 → Int32 → Prop) (σ : St) (x3 : Int32) (x4 : Int32) (x8 : Int32) : Prop :=
  ((a2 ≤ x8 →
  K129 σ x3 x4) ∧
 (¬ a2 ≤ x8 →
  (vp_in x8 4 ∧
  (vp_in (σ.1 57 x8.toNatClampNeg) 80 ∧
  bI (σ.1 53 (σ.1 57 x8.toNatClampNeg).toNatClampNeg) (fun y64 =>
  ((¬ x3 = 0 →
  m_X3_tallyRing_J94 b1 a2 Q x5 x6 x7 K129 Rc σ x4 x8 y64) ∧
 (x3 = 0 →
  ((x6 = x8 →
  m_X3_tallyRing_J98 b1 a2 Q x5 x6 x7 K129 Rc σ x4 x8 y64) ∧
 (¬ x6 = x8 →
  (vp_in x7 20 ∧
  m_X4_heldAt b1 σ y64 (fun r87 σ87 =>
  ((((σ.1 (b1 + 2) x7.toNatClampNeg) &&& r87) = 0 →
  m_X3_tallyRing_J98 b1 a2 Q x5 x6 x7 K129 Rc σ87 x4 x8 y64) ∧
 (¬ ((σ.1 (b1 + 2) x7.toNatClampNeg) &&& r87) = 0 →
  m_X3_tallyRing_J94 b1 a2 Q x5 x6 x7 K129 Rc σ87 x4 x8 y64)))))))))))))
def m_X3_tallyRing_L46 (b1 : Nat) (a2 : Int32) (Q : St → Prop) (x5 : Int32) (x6 : Int32) (x7 : Int32) (K129 : St → Int32 → Int32 → Prop) : Nat → St → Int32 → Int32 → Int32 → Prop
  | 0 => fun _ _ _ _ => False
  | f + 1 => m_X3_tallyRing_L46b b1 a2 Q x5 x6 x7 K129 (m_X3_tallyRing_L46 b1 a2 Q x5 x6 x7 K129 f)
def m_X3_tallyRing_J129 (b1 : Nat) (a2 : Int32) (Q : St → Prop) (K135 : St → Int32 → Int32 → Int32 → Prop) (Rc : St → Int32 → Int32 → Int32 → Int32 → Prop) (σ : St) (x3 : Int32) (x4 : Int32) (x5 : Int32) (x6 : Int32) : Prop :=
  Rc σ x3 x4 x5 (x6 + 1)
def m_X3_tallyRing_L11b (b1 : Nat) (a2 : Int32) (Q : St → Prop) (K135 : St → Int32 → Int32 → Int32 → Prop) (Rc : St → Int32 → Int32 → Int32 → Int32 → Prop) (σ : St) (x3 : Int32) (x4 : Int32) (x5 : Int32) (x6 : Int32) : Prop :=
  ((a2 ≤ x6 →
  K135 σ x3 x4 x5) ∧
 (¬ a2 ≤ x6 →
  (vp_in x6 4 ∧
  (vp_in (σ.1 57 x6.toNatClampNeg) 80 ∧
  bI (σ.1 53 (σ.1 57 x6.toNatClampNeg).toNatClampNeg) (fun y29 =>
  bI (((x5 * 100) + y29) + 1) (fun y41 =>
  ∃ f, m_X3_tallyRing_L46 b1 a2 Q y41 x6 y29 (fun σ x3 x4 => m_X3_tallyRing_J129 b1 a2 Q K135 Rc σ x3 x4 y41 x6) f σ x3 x4 0))))))
def m_X3_tallyRing_L11 (b1 : Nat) (a2 : Int32) (Q : St → Prop) (K135 : St → Int32 → Int32 → Int32 → Prop) : Nat → St → Int32 → Int32 → Int32 → Int32 → Prop
  | 0 => fun _ _ _ _ _ => False
  | f + 1 => m_X3_tallyRing_L11b b1 a2 Q K135 (m_X3_tallyRing_L11 b1 a2 Q K135 f)
def m_X3_tallyRing_J192 (b1 : Nat) (a2 : Int32) (Q : St → Prop) (σ : St) (x3 : Int32) (x4 : Int32) (x5 : Int32) (x6 : Int32) (t1 : Int32) (t2 : Int32) (t3 : Int32) : Prop :=
  (vp_in t1 20 ∧
  sIB σ 56 (t1.toNatClampNeg) (t2 + t3) (fun σ193 =>
  ((¬ x3 = 0 →
  Q σ193) ∧
 (x3 = 0 →
  ((¬ x4 = 0 →
  Q σ193) ∧
 (x4 = 0 →
  (vp_in (x6 + 3) 20 ∧
  (vp_in (x6 + 3) 20 ∧
  sIB σ193 56 ((x6 + 3).toNatClampNeg) ((σ193.1 56 (x6 + 3).toNatClampNeg) + 1) (fun σ215 =>
  ((¬ (σ215.1 52 5) = (-9) →
  sIB σ215 52 5 (if x5 < (σ215.1 52 5) then x5 else (σ215.1 52 5)) (fun σ240 =>
  Q σ240)) ∧
 ((σ215.1 52 5) = (-9) →
  sIB σ215 52 5 x5 (fun σ240 =>
  Q σ240))))))))))))
def m_X3_tallyRing_J170 (b1 : Nat) (a2 : Int32) (Q : St → Prop) (σ : St) (x3 : Int32) (x4 : Int32) (x5 : Int32) (x6 : Int32) (t1 : Int32) (t2 : Int32) (t3 : Int32) : Prop :=
  (vp_in t1 20 ∧
  sIB σ 56 (t1.toNatClampNeg) (t2 + t3) (fun σ171 =>
  (vp_in (x6 + 2) 20 ∧
  ((x4 = 0 →
  m_X3_tallyRing_J192 b1 a2 Q σ171 x3 x4 x5 x6 (x6 + 2) (σ171.1 56 (x6 + 2).toNatClampNeg) 0) ∧
 (¬ x4 = 0 →
  m_X3_tallyRing_J192 b1 a2 Q σ171 x3 x4 x5 x6 (x6 + 2) (σ171.1 56 (x6 + 2).toNatClampNeg) 1)))))
def m_X3_tallyRing_J135 (b1 : Nat) (a2 : Int32) (Q : St → Prop) (σ : St) (x3 : Int32) (x4 : Int32) (x5 : Int32) : Prop :=
  bI (a2 * 4) (fun y138 =>
  (vp_in y138 20 ∧
  (vp_in y138 20 ∧
  sIB σ 56 (y138.toNatClampNeg) ((σ.1 56 y138.toNatClampNeg) + 1) (fun σ150 =>
  (vp_in (y138 + 1) 20 ∧
  ((x3 = 0 →
  m_X3_tallyRing_J170 b1 a2 Q σ150 x3 x4 x5 y138 (y138 + 1) (σ150.1 56 (y138 + 1).toNatClampNeg) 0) ∧
 (¬ x3 = 0 →
  m_X3_tallyRing_J170 b1 a2 Q σ150 x3 x4 x5 y138 (y138 + 1) (σ150.1 56 (y138 + 1).toNatClampNeg) 1)))))))
def m_X3_tallyRing (b1 : Nat) (σ : St) (a2 : Int32) (Q : St → Prop) : Prop :=
  ∃ f, m_X3_tallyRing_L11 b1 a2 Q (fun σ x3 x4 x5 => m_X3_tallyRing_J135 b1 a2 Q σ x3 x4 x5) f σ 0 0 0 0
def m_X3_grow_J75 (b1 : Nat) (a2 : Int32) (a3 : Int32) (a4 : Int32) (Q : St → Prop) (G : Nat → St → Int32 → Int32 → Int32 → (St → Prop) → Prop) (x5 : Int32) (K176 : St → Prop) (Rc : St → Int32 → Prop) (σ : St) (x6 : Int32) (x7 : Int32) (t0 : Int32) : Prop :=
  ((t0 = 0 →
  Rc σ (x6 + 1)) ∧
 (¬ t0 = 0 →
  (vp_in (a2 - 1) 4 ∧
  m_X3_links b1 σ (σ.1 57 (a2 - 1).toNatClampNeg) x6 (fun r94 σ94 =>
  ((r94 = 0 →
  Rc σ94 (x6 + 1)) ∧
 (¬ r94 = 0 →
  (vp_in a2 4 ∧
  sIB σ94 57 (a2.toNatClampNeg) x6 (fun σ107 =>
  m_X3_links b1 σ107 x6 x5 (fun r114 σ114 =>
  ((r114 = 0 →
  (vp_in x6 80 ∧
  ((¬ ((a4 >>> ((σ114.1 55 x6.toNatClampNeg) &&& 31)) &&& 1) = 0 →
  Rc σ114 (x6 + 1)) ∧
 (((a4 >>> ((σ114.1 55 x6.toNatClampNeg) &&& 31)) &&& 1) = 0 →
  (vp_in x6 80 ∧
  G b1 σ114 (a2 + 1) (a3 ||| x7) (a4 ||| ((1 : Int32) <<< ((σ114.1 54 x6.toNatClampNeg) &&& 31))) (fun σ167 =>
  Rc σ167 (x6 + 1))))))) ∧
 (¬ r114 = 0 →
  m_X3_tallyRing b1 σ114 (a2 + 1) (fun σ125 =>
  Rc σ125 (x6 + 1)))))))))))))
def m_X3_grow_J74 (b1 : Nat) (a2 : Int32) (a3 : Int32) (a4 : Int32) (Q : St → Prop) (G : Nat → St → Int32 → Int32 → Int32 → (St → Prop) → Prop) (x5 : Int32) (K176 : St → Prop) (Rc : St → Int32 → Prop) (σ : St) (x6 : Int32) (x7 : Int32) : Prop :=
  m_X3_grow_J75 b1 a2 a3 a4 Q G x5 K176 Rc σ x6 x7 0
def m_X3_grow_L22b (b1 : Nat) (a2 : Int32) (a3 : Int32) (a4 : Int32) (Q : St → Prop) (G : Nat → St → Int32 → Int32 → Int32 → (St → Prop) → Prop) (x5 : Int32) (K176 : St → Prop) (Rc : St → Int32 → Prop) (σ : St) (x6 : Int32) : Prop :=
  (((σ.1 52 0) ≤ x6 →
  K176 σ) ∧
 (¬ (σ.1 52 0) ≤ x6 →
  (vp_in x6 80 ∧
  m_X4_threadAt b1 σ (σ.1 53 x6.toNatClampNeg) (fun r40 σ40 =>
  bI ((1 : Int32) <<< (r40 &&& 31)) (fun y44 =>
  (vp_in x6 80 ∧
  (vp_in x5 80 ∧
  (((σ40.1 53 x6.toNatClampNeg) ≤ (σ40.1 53 x5.toNatClampNeg) →
  m_X3_grow_J74 b1 a2 a3 a4 Q G x5 K176 Rc σ40 x6 y44) ∧
 (¬ (σ40.1 53 x6.toNatClampNeg) ≤ (σ40.1 53 x5.toNatClampNeg) →
  ((¬ (a3 &&& y44) = 0 →
  m_X3_grow_J74 b1 a2 a3 a4 Q G x5 K176 Rc σ40 x6 y44) ∧
 ((a3 &&& y44) = 0 →
  m_X3_grow_J75 b1 a2 a3 a4 Q G x5 K176 Rc σ40 x6 y44 1)))))))))))
def m_X3_grow_L22 (b1 : Nat) (a2 : Int32) (a3 : Int32) (a4 : Int32) (Q : St → Prop) (G : Nat → St → Int32 → Int32 → Int32 → (St → Prop) → Prop) (x5 : Int32) (K176 : St → Prop) : Nat → St → Int32 → Prop
  | 0 => fun _ _ => False
  | f + 1 => m_X3_grow_L22b b1 a2 a3 a4 Q G x5 K176 (m_X3_grow_L22 b1 a2 a3 a4 Q G x5 K176 f)
def m_X3_grow_J176 (b1 : Nat) (a2 : Int32) (a3 : Int32) (a4 : Int32) (Q : St → Prop) (G : Nat → St → Int32 → Int32 → Int32 → (St → Prop) → Prop) (σ : St) : Prop :=
  Q σ
def m_X3_growB (G : Nat → St → Int32 → Int32 → Int32 → (St → Prop) → Prop) (b1 : Nat) (σ : St) (a2 : Int32) (a3 : Int32) (a4 : Int32) (Q : St → Prop) : Prop :=
  ((a2 < 1 →
  Q σ) ∧
 (¬ a2 < 1 →
  ((a2 < 4 →
  bI (σ.1 57 ((0 : Int32).toNatClampNeg)) (fun y17 =>
  ∃ f, m_X3_grow_L22 b1 a2 a3 a4 Q G y17 (fun σ => m_X3_grow_J176 b1 a2 a3 a4 Q G σ) f σ 0)) ∧
 (¬ a2 < 4 →
  Q σ))))
def m_X3_grow : Nat → Nat → St → Int32 → Int32 → Int32 → (St → Prop) → Prop
  | 0 => fun _ _ _ _ _ _ => False
  | D + 1 => m_X3_growB (m_X3_grow D)
def m_X3_find_L21b (b1 : Nat) (Q : St → Prop) (K68 : St → Prop) (Rc : St → Int32 → Prop) (σ : St) (x2 : Int32) : Prop :=
  (((σ.1 52 0) ≤ x2 →
  K68 σ) ∧
 (¬ (σ.1 52 0) ≤ x2 →
  (vp_in 0 4 ∧
  sIB σ 57 ((0 : Int32).toNatClampNeg) x2 (fun σ35 =>
  (vp_in x2 80 ∧
  m_X4_threadAt b1 σ35 (σ35.1 53 x2.toNatClampNeg) (fun r47 σ47 =>
  (vp_in x2 80 ∧
  m_X3_grow 5 b1 σ47 1 ((1 : Int32) <<< (r47 &&& 31)) ((1 : Int32) <<< ((σ47.1 54 x2.toNatClampNeg) &&& 31)) (fun σ59 =>
  Rc σ59 (x2 + 1)))))))))
def m_X3_find_L21 (b1 : Nat) (Q : St → Prop) (K68 : St → Prop) : Nat → St → Int32 → Prop
  | 0 => fun _ _ => False
  | f + 1 => m_X3_find_L21b b1 Q K68 (m_X3_find_L21 b1 Q K68 f)
def m_X3_find_J68 (b1 : Nat) (Q : St → Prop) (σ : St) : Prop :=
  Q σ
def m_X3_find (b1 : Nat) (σ : St) (Q : St → Prop) : Prop :=
  m_X3_collect b1 σ  (fun σ2 =>
  m_J7_fill_53178 56 20 σ2 0 (fun σ10 =>
  sIB σ10 52 5 (-9) (fun σ16 =>
  ∃ f, m_X3_find_L21 b1 Q (fun σ => m_X3_find_J68 b1 Q σ) f σ16 0)))
def m_X4_pack (σ : St) (a0 : Int32) (a1 : Int32) (a2 : Int32) (Q : Int32 → St → Prop) : Prop :=
  Q (((a1 <<< ((4 : Int32) &&& 31)) ||| ((a0 &&& 3) <<< ((2 : Int32) &&& 31))) ||| (a2 &&& 3)) σ
def m_X4_copy_L6b (b0 : Nat) (b1 : Nat) (Q : St → Prop) (K31 : St → Prop) (Rc : St → Int32 → Prop) (σ : St) (x2 : Int32) : Prop :=
  (((σ.1 b1 0) ≤ x2 →
  K31 σ) ∧
 (¬ (σ.1 b1 0) ≤ x2 →
  (vp_in x2 20 ∧
  m_X4_put b0 σ (σ.1 (b1 + 1) x2.toNatClampNeg) (fun r21 σ21 =>
  Rc σ21 (x2 + 1)))))
def m_X4_copy_L6 (b0 : Nat) (b1 : Nat) (Q : St → Prop) (K31 : St → Prop) : Nat → St → Int32 → Prop
  | 0 => fun _ _ => False
  | f + 1 => m_X4_copy_L6b b0 b1 Q K31 (m_X4_copy_L6 b0 b1 Q K31 f)
def m_X4_copy_J31 (b0 : Nat) (b1 : Nat) (Q : St → Prop) (σ : St) : Prop :=
  Q σ
def m_X4_copy (b0 : Nat) (b1 : Nat) (σ : St) (Q : St → Prop) : Prop :=
  m_X4_begin b0 σ  (fun σ1 =>
  ∃ f, m_X4_copy_L6 b0 b1 Q (fun σ => m_X4_copy_J31 b0 b1 Q σ) f σ1 0)
def m_X4_has (b0 : Nat) (σ : St) (a1 : Int32) (Q : Int32 → St → Prop) : Prop :=
  ((a1 < 0 →
  Q 0 σ) ∧
 (¬ a1 < 0 →
  (((σ.1 b0 0) ≤ a1 →
  Q 0 σ) ∧
 (¬ (σ.1 b0 0) ≤ a1 →
  Q 1 σ))))
def m_X4_takeOut_L25b (b0 : Nat) (a1 : Int32) (Q : Int32 → St → Prop) (x2 : Int32) (x3 : Int32) (K55 : St → Prop) (Rc : St → Int32 → Prop) (σ : St) (x4 : Int32) : Prop :=
  (((x2 - 1) ≤ x4 →
  K55 σ) ∧
 (¬ (x2 - 1) ≤ x4 →
  (vp_in (x4 + 1) 20 ∧
  (vp_in x4 20 ∧
  sIB σ (b0 + 1) (x4.toNatClampNeg) (σ.1 (b0 + 1) (x4 + 1).toNatClampNeg) (fun σ48 =>
  Rc σ48 (x4 + 1))))))
def m_X4_takeOut_L25 (b0 : Nat) (a1 : Int32) (Q : Int32 → St → Prop) (x2 : Int32) (x3 : Int32) (K55 : St → Prop) : Nat → St → Int32 → Prop
  | 0 => fun _ _ => False
  | f + 1 => m_X4_takeOut_L25b b0 a1 Q x2 x3 K55 (m_X4_takeOut_L25 b0 a1 Q x2 x3 K55 f)
def m_X4_takeOut_J55 (b0 : Nat) (a1 : Int32) (Q : Int32 → St → Prop) (σ : St) (x2 : Int32) (x3 : Int32) : Prop :=
  m_X4_replay b0 σ (x2 - 1) (fun r59 σ59 =>
  ((r59 = 0 →
  m_X4_open b0 σ59 a1 x3 x2 (fun σ71 =>
  m_X4_replay b0 σ71 x2 (fun r76 σ76 =>
  Q 0 σ76))) ∧
 (¬ r59 = 0 →
  Q 1 σ59)))
def m_X4_takeOut (b0 : Nat) (σ : St) (a1 : Int32) (Q : Int32 → St → Prop) : Prop :=
  m_X4_has b0 σ a1 (fun r2 σ2 =>
  ((¬ r2 = 0 →
  bI (σ2.1 b0 0) (fun y14 =>
  (vp_in a1 20 ∧
  bI (σ2.1 (b0 + 1) a1.toNatClampNeg) (fun y21 =>
  ∃ f, m_X4_takeOut_L25 b0 a1 Q y14 y21 (fun σ => m_X4_takeOut_J55 b0 a1 Q σ y14 y21) f σ2 a1)))) ∧
 (r2 = 0 →
  Q 0 σ2)))
def m_X5_put (σ : St) (a1 : Int32) (a2 : Int32) (a3 : Int32) (Q : Int32 → St → Prop) : Prop :=
  (((σ.1 48 0) < 6 →
  (vp_in (σ.1 48 0) 6 ∧
  sIB σ 49 ((σ.1 48 0).toNatClampNeg) a1 (fun σ20 =>
  (vp_in (σ20.1 48 0) 6 ∧
  sIB σ20 50 ((σ20.1 48 0).toNatClampNeg) a2 (fun σ30 =>
  (vp_in (σ30.1 48 0) 6 ∧
  sIB σ30 51 ((σ30.1 48 0).toNatClampNeg) (vp_nar .boolean a3) (fun σ40 =>
  sIB σ40 48 0 ((σ40.1 48 0) + 1) (fun σ48 =>
  Q 1 σ48)))))))) ∧
 (¬ (σ.1 48 0) < 6 →
  Q 0 σ))
def m_X5_fits_J58 (b1 : Nat) (a2 : Int32) (Q : Int32 → St → Prop) (K67 : St → Prop) (K75 : St → Prop) (Rc : St → Int32 → Prop) (σ : St) (x3 : Int32) (t0 : Int32) : Prop :=
  (vp_in x3 6 ∧
  ((t0 = (σ.1 51 x3.toNatClampNeg) →
  Rc σ (x3 + 1)) ∧
 (¬ t0 = (σ.1 51 x3.toNatClampNeg) →
  K67 σ)))
def m_X5_fits_L12b (b1 : Nat) (a2 : Int32) (Q : Int32 → St → Prop) (K67 : St → Prop) (K75 : St → Prop) (Rc : St → Int32 → Prop) (σ : St) (x3 : Int32) : Prop :=
  (((σ.1 48 0) ≤ x3 →
  K75 σ) ∧
 (¬ (σ.1 48 0) ≤ x3 →
  (vp_in x3 6 ∧
  m_X1_watch b1 σ (σ.1 49 x3.toNatClampNeg) (σ.1 b1 0) a2 15 (fun r34 σ34 =>
  m_X1_stateOf σ34 r34 (fun r41 σ41 =>
  (vp_in x3 6 ∧
  ((¬ r41 = (σ41.1 50 x3.toNatClampNeg) →
  m_X5_fits_J58 b1 a2 Q K67 K75 Rc σ41 x3 0) ∧
 (r41 = (σ41.1 50 x3.toNatClampNeg) →
  m_X5_fits_J58 b1 a2 Q K67 K75 Rc σ41 x3 1))))))))
def m_X5_fits_L12 (b1 : Nat) (a2 : Int32) (Q : Int32 → St → Prop) (K67 : St → Prop) (K75 : St → Prop) : Nat → St → Int32 → Prop
  | 0 => fun _ _ => False
  | f + 1 => m_X5_fits_L12b b1 a2 Q K67 K75 (m_X5_fits_L12 b1 a2 Q K67 K75 f)
def m_X5_fits_J67 (b1 : Nat) (a2 : Int32) (Q : Int32 → St → Prop) (σ : St) : Prop :=
  Q 0 σ
def m_X5_fits_J75 (b1 : Nat) (a2 : Int32) (Q : Int32 → St → Prop) (σ : St) : Prop :=
  Q 1 σ
def m_X5_fits (b1 : Nat) (σ : St) (a2 : Int32) (Q : Int32 → St → Prop) : Prop :=
  m_X4_isTouch b1 σ a2 (fun r2 σ2 =>
  ((¬ r2 = 0 →
  ∃ f, m_X5_fits_L12 b1 a2 Q (fun σ => m_X5_fits_J67 b1 a2 Q σ) (fun σ => m_X5_fits_J75 b1 a2 Q σ) f σ2 0) ∧
 (r2 = 0 →
  Q 0 σ2)))
def m_X5_fittingCount_L4b (b1 : Nat) (Q : Int32 → St → Prop) (K30 : St → Int32 → Prop) (Rc : St → Int32 → Int32 → Prop) (σ : St) (x2 : Int32) (x3 : Int32) : Prop :=
  (((σ.1 b1 0) ≤ x3 →
  K30 σ x2) ∧
 (¬ (σ.1 b1 0) ≤ x3 →
  m_X5_fits b1 σ x3 (fun r15 σ15 =>
  ((r15 = 0 →
  Rc σ15 x2 (x3 + 1)) ∧
 (¬ r15 = 0 →
  Rc σ15 (x2 + 1) (x3 + 1))))))
def m_X5_fittingCount_L4 (b1 : Nat) (Q : Int32 → St → Prop) (K30 : St → Int32 → Prop) : Nat → St → Int32 → Int32 → Prop
  | 0 => fun _ _ _ => False
  | f + 1 => m_X5_fittingCount_L4b b1 Q K30 (m_X5_fittingCount_L4 b1 Q K30 f)
def m_X5_fittingCount_J30 (b1 : Nat) (Q : Int32 → St → Prop) (σ : St) (x2 : Int32) : Prop :=
  Q x2 σ
def m_X5_fittingCount (b1 : Nat) (σ : St) (Q : Int32 → St → Prop) : Prop :=
  ∃ f, m_X5_fittingCount_L4 b1 Q (fun σ x2 => m_X5_fittingCount_J30 b1 Q σ x2) f σ 0 0
