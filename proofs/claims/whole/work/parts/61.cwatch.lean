/-! ===== LockWatch.Row read, LockWatch.Cells ===== -/
theorem r_vp {T : Tr} {k : Nat} (hl : T.length ≤ 20) (hk : k < T.length) : vp_in (nI k) 20 := vp_n (by omega) (by omega)
theorem r_threadAt {b : Nat} {T : Tr} {σ : St} {k : Nat} {Q : Int32 → St → Prop} (hR : RowOK b T σ) (hV : Val T) (hl : T.length ≤ 20) (hk : k < T.length) (h : Q (nI (th T k)) σ) : m_X4_threadAt b σ (nI k) Q := by
  obtain ⟨b1, b2, b3, _⟩ := hV k hk
  unfold m_X4_threadAt
  rw [nI_cl (by omega), (hR.2.1 k hk).1, cod_t b1 b3]
  exact ⟨r_vp hl hk, h⟩
theorem r_signAt {b : Nat} {T : Tr} {σ : St} {k : Nat} {Q : Int32 → St → Prop} (hR : RowOK b T σ) (hV : Val T) (hl : T.length ≤ 20) (hk : k < T.length) (h : Q (nI (ltr (sg T k))) σ) : m_X4_signAt b σ (nI k) Q := by
  obtain ⟨b1, b2, b3, _⟩ := hV k hk
  unfold m_X4_signAt
  rw [nI_cl (by omega), (hR.2.1 k hk).1, cod_g b1 b3]
  exact ⟨r_vp hl hk, h⟩
theorem r_aboutAt {b : Nat} {T : Tr} {σ : St} {k : Nat} {Q : Int32 → St → Prop} (hR : RowOK b T σ) (hV : Val T) (hl : T.length ≤ 20) (hk : k < T.length) (h : Q (nI (ab T k)) σ) : m_X4_aboutAt b σ (nI k) Q := by
  obtain ⟨b1, b2, b3, _⟩ := hV k hk
  unfold m_X4_aboutAt
  rw [nI_cl (by omega), (hR.2.1 k hk).1, cod_o b1 b3]
  exact ⟨r_vp hl hk, h⟩
theorem r_heldAt {b : Nat} {T : Tr} {σ : St} {k : Nat} {Q : Int32 → St → Prop} (hR : RowOK b T σ) (hl : T.length ≤ 20) (hk : k < T.length) (h : Q (hw T k ||| hr T k) σ) : m_X4_heldAt b σ (nI k) Q := by
  unfold m_X4_heldAt
  rw [nI_cl (by omega), (hR.2.1 k hk).2.1, (hR.2.1 k hk).2.2.1]
  exact ⟨r_vp hl hk, r_vp hl hk, h⟩
theorem r_isAhead {b : Nat} {T : Tr} {σ : St} {j k : Nat} {Q : Int32 → St → Prop} (hR : RowOK b T σ) (hl : T.length ≤ 20) (hk : k < T.length) (hj : j < 32) (h : Q (if bt (bf T k) j then 1 else 0) σ) : m_X4_isAhead b σ (nI j) (nI k) Q := by
  unfold m_X4_isAhead
  rw [nI_cl (by omega), (hR.2.1 k hk).2.2.2.2, hb_val _ hj]
  refine ⟨r_vp hl hk, ?_⟩
  cases hb : bt (bf T k) j
  · rw [hb] at h; exact ⟨fun _ => h, fun q => absurd q (by decide)⟩
  · rw [hb] at h; exact ⟨fun q => absurd rfl q, fun _ => h⟩
theorem ltr_eq {g c g2 : Nat} (hg : g < 7) (hc : sgn c = some g2) (hc2 : c < 256) : (nI (ltr g) = nI c) ↔ g = g2 := by
  have := ltr_lt g
  rw [nI_eq' (by omega) (by omega)]
  constructor
  · intro q; rw [← q, sgn_ltr hg] at hc; injection hc
  · intro q; rw [q]; exact ltr_sgn hc
theorem r_takesAt {b : Nat} {T : Tr} {σ : St} {k : Nat} {Q : Int32 → St → Prop} (hR : RowOK b T σ) (hV : Val T) (hl : T.length ≤ 20) (hk : k < T.length) (h : Q (if decide (sg T k < 2) then 1 else 0) σ) : m_X4_takesAt b σ (nI k) Q := by
  obtain ⟨b1, b2, b3, _⟩ := hV k hk
  unfold m_X4_takesAt
  refine ⟨r_vp hl hk, bI_i ?_⟩
  rw [nI_cl (by omega), (hR.2.1 k hk).1, cod_g b1 b3, show (108 : Int32) = nI 108 from rfl, show (115 : Int32) = nI 115 from rfl]
  show (nI (ltr (sg T k)) = nI 108 → _) ∧ (¬ nI (ltr (sg T k)) = nI 108 → (¬ nI (ltr (sg T k)) = nI 115 → _) ∧ (nI (ltr (sg T k)) = nI 115 → _))
  rw [ltr_eq b2 (g2 := 0) rfl (by omega), ltr_eq b2 (g2 := 1) rfl (by omega)]
  refine ⟨fun q => ?_, fun q => ⟨fun q2 => ?_, fun q2 => ?_⟩⟩
  · rw [decide_eq_true (by omega)] at h; exact h
  · rw [decide_eq_false (by omega)] at h; exact h
  · rw [decide_eq_true (by omega)] at h; exact h
theorem r_writesAt {b : Nat} {T : Tr} {σ : St} {k : Nat} {Q : Int32 → St → Prop} (hR : RowOK b T σ) (hV : Val T) (hl : T.length ≤ 20) (hk : k < T.length) (h : Q (if decide (sg T k = 4) then 1 else 0) σ) : m_X4_writesAt b σ (nI k) Q := by
  obtain ⟨b1, b2, b3, _⟩ := hV k hk
  unfold m_X4_writesAt
  rw [nI_cl (by omega), (hR.2.1 k hk).1, cod_g b1 b3, show (119 : Int32) = nI 119 from rfl]
  show _ ∧ (¬ nI (ltr (sg T k)) = nI 119 → _) ∧ (nI (ltr (sg T k)) = nI 119 → _)
  rw [ltr_eq b2 (g2 := 4) rfl (by omega)]
  refine ⟨r_vp hl hk, fun q => ?_, fun q => ?_⟩
  · rw [decide_eq_false q] at h; exact h
  · rw [decide_eq_true q] at h; exact h
theorem r_isTouch {b : Nat} {T : Tr} {σ : St} {k : Nat} {Q : Int32 → St → Prop} (hR : RowOK b T σ) (hV : Val T) (hl : T.length ≤ 20) (hk : k < T.length) (h : Q (if tch T k then 1 else 0) σ) : m_X4_isTouch b σ (nI k) Q := by
  obtain ⟨b1, b2, b3, _⟩ := hV k hk
  unfold m_X4_isTouch
  refine ⟨r_vp hl hk, bI_i ?_⟩
  rw [nI_cl (by omega), (hR.2.1 k hk).1, cod_g b1 b3, show (114 : Int32) = nI 114 from rfl, show (119 : Int32) = nI 119 from rfl]
  show (nI (ltr (sg T k)) = nI 114 → _) ∧ (¬ nI (ltr (sg T k)) = nI 114 → (¬ nI (ltr (sg T k)) = nI 119 → _) ∧ (nI (ltr (sg T k)) = nI 119 → _))
  rw [ltr_eq b2 (g2 := 3) rfl (by omega), ltr_eq b2 (g2 := 4) rfl (by omega)]
  unfold tch at h
  exact ⟨fun q => by simpa [q] using h, fun q => ⟨fun q2 => by simpa [q, q2] using h, fun q2 => by simpa [q2] using h⟩⟩
theorem r_touchesAt {b : Nat} {T : Tr} {σ : St} {k c : Nat} {Q : Int32 → St → Prop} (hR : RowOK b T σ) (hV : Val T) (hl : T.length ≤ 20) (hk : k < T.length) (hc : c < 4) (h : Q (if tcof T k c then 1 else 0) σ) : m_X4_touchesAt b σ (nI k) (nI c) Q := by
  obtain ⟨b1, b2, b3, _⟩ := hV k hk
  unfold m_X4_touchesAt
  refine r_isTouch hR hV hl hk ?_
  unfold tcof at h
  cases ht : tch T k
  · rw [ht] at h; exact ⟨fun _ => by simpa using h, fun q => absurd rfl q⟩
  · rw [ht] at h
    refine ⟨fun q => absurd q (by decide), fun _ => ⟨r_vp hl hk, ?_⟩⟩
    rw [nI_cl (by omega), (hR.2.1 k hk).1, cod_o b1 b3]
    show (¬ nI (ab T k) = nI c → _) ∧ (nI (ab T k) = nI c → _)
    rw [nI_eq' (by have : ab T k < 4 := b3; omega) (by omega)]
    exact ⟨fun q => by simpa [q] using h, fun q => by simpa [q] using h⟩
theorem sm_nat {x : Int32} (h : sm x) : ∃ m, m < 16 ∧ x = nI m := by
  have e : x &&& 15 = x := by
    apply b_ext
    intro i hi
    rw [b_and, b_15 i hi]
    rcases Nat.lt_or_ge i 4 with q | q
    · rw [decide_eq_true q, Bool.and_true]
    · rw [h i q hi]; rfl
  obtain ⟨j, hj, ej⟩ := pk_andE x (m := 15) 4 (by decide)
  exact ⟨j, hj, by rw [← ej, e]⟩
theorem sm_nI {m : Nat} (h : m < 16) : sm (nI m) := by
  intro i a b
  have : ∀ m, m < 16 → ∀ i, i < 32 → (4 ≤ i → bt (nI m) i = false) := by decide +kernel
  exact this m h i b a
theorem sm_gd {T : Tr} (hV : Val T) {k : Nat} (hk : k < T.length) : sm (gd T k) := by
  have hw' := Wsm_wl (T := T) (fun k hk => (hV k hk).2.2.1) k (by omega)
  unfold gd
  split
  · exact hw'.1 _
  · exact sm_or (hw'.1 _) (hw'.2.1 _)
def WCd (s : W5) (x : Int32) : Prop := (s.1 = 0 ∧ x = nI 0) ∨ (s.1 = 1 ∧ ∃ o, o < 4 ∧ s.2.2.1 = nI o ∧ x = nI (16 + o)) ∨ (∃ m, m < 16 ∧ (s.1 = 2 ∨ s.1 = 3) ∧ s.2.1 = nI m ∧ x = nI (16 * s.1 + m))
theorem WCd.st {s : W5} {x : Int32} (h : WCd s x) : x >>> ((4 : Int32) &&& 31) = nI s.1 ∧ s.1 < 4 := by
  rcases h with ⟨a, b⟩ | ⟨a, o, ho, _, b⟩ | ⟨m, hm, a, _, b⟩
  · rw [b, pk_shrN (by omega) _ 4 sh4, a]; exact ⟨rfl, by omega⟩
  · rw [b, pk_shrN (by omega) _ 4 sh4, a]; exact ⟨by congr 1; omega, by omega⟩
  · rw [b, pk_shrN (by omega) _ 4 sh4]; exact ⟨by congr 1; omega, by omega⟩
theorem WCd.flag {s : W5} {x : Int32} (h : WCd s x) : x = 48 ↔ (s.1 = 3 ∧ s.2.1 = 0) := by
  rw [show (48 : Int32) = nI 48 from rfl, show (0 : Int32) = nI 0 from rfl]
  rcases h with ⟨a, b⟩ | ⟨a, o, ho, _, b⟩ | ⟨m, hm, a, c, b⟩
  · rw [b, nI_eq' (by omega) (by omega)]; constructor
    · intro q; omega
    · intro q; omega
  · rw [b, nI_eq' (by omega) (by omega)]; constructor
    · intro q; omega
    · intro q; omega
  · rw [b, c, nI_eq' (by omega) (by omega), nI_eq' (by omega) (by omega)]; omega
theorem q_touch {b : Nat} {T : Tr} {σ : St} {k : Nat} {s : W5} {x lk : Int32} {Q : Int32 → St → Prop} (hR : RowOK b T σ) (hV : Val T) (hl : T.length ≤ 20) (hk : k < T.length) (hs : WCd s x) (h : ∀ y, WCd (w5s T lk s k) y → Q y σ) : m_X1_touch b σ x (nI k) lk Q := by
  obtain ⟨b1, b2, b3, _⟩ := hV k hk
  have hst := hs.st
  have hgd := sm_gd hV hk
  have J76 : ∀ (w : Int32) (m : Nat), m < 4 → (m = 2 ∨ m = 3) → sm w → (m, (w &&& gd T k) &&& lk, s.2.2.1) = w3 T lk s k → m_X1_touch_J76 b x (nI k) lk Q σ w (nI m) := by
    intro w m hm4 hm hw hw3
    unfold m_X1_touch_J76
    rw [nI_cl (by omega), (hR.2.1 k hk).2.2.2.1]
    refine ⟨r_vp hl hk, ?_⟩
    obtain ⟨j, hj, ej⟩ := sm_nat (sm_and (y := lk) (sm_and (y := gd T k) hw))
    rw [ej, pk_shlN _ 4 sh4 (by omega), show m * 2 ^ 4 = 2 ^ 4 * m by omega, or_sum m (by omega)]
    refine h _ (Or.inr (Or.inr ⟨j, hj, ?_, ?_, ?_⟩))
    · show (w3 T lk s k).1 = 2 ∨ (w3 T lk s k).1 = 3; rw [← hw3]; exact hm
    · show (w3 T lk s k).2.1 = nI j; rw [← hw3]; exact ej
    · show _ = nI (16 * (w3 T lk s k).1 + j); rw [← hw3]
  have J40 : (¬ s.1 = 0) → (s.1 = 1 → nI (th T k) ≠ s.2.2.1) → m_X1_touch_J40 b x (nI k) lk Q σ (nI s.1) := by
    intro z0 z1
    have J55 : ∀ w, sm w → (s.1 = 1 → w = 15) → (s.1 ≠ 1 → w = s.2.1) → m_X1_touch_J55 b x (nI k) lk Q σ (nI s.1) w := by
      intro w hw hw1 hw2
      have fin : ∀ m, (m = if s.1 = 3 ∨ sg T k = 4 then 3 else 2) → m_X1_touch_J76 b x (nI k) lk Q σ w (nI m) := by
        intro m hm
        have hm4 : m = 2 ∨ m = 3 := by rw [hm]; split <;> simp
        refine J76 w m (by omega) hm4 hw ?_
        unfold w3
        by_cases e : s.1 = 1
        · rw [if_neg z0, if_pos ⟨e, z1 e⟩, hw1 e, hm]
          congr 1
          · by_cases g : sg T k = 4
            · rw [if_pos (Or.inr g), if_pos g]
            · rw [if_neg (by omega), if_neg g]
          · congr 1
            apply b_ext
            intro i hi
            rw [b_and, b_and, b_and, b_15 i hi]
            rcases Nat.lt_or_ge i 4 with q | q
            · rw [decide_eq_true q, Bool.true_and]
            · rw [hgd i q hi]; simp
        · rw [if_neg z0, if_neg (fun w => e w.1), if_pos (by omega), hw2 e, hm]
          congr 1
          · by_cases g : sg T k = 4
            · rw [if_pos (Or.inr g), if_pos g]
            · rw [if_neg g]
              split <;> omega
          · congr 1
            apply b_ext
            intro i hi
            rw [b_and, b_and, b_and, b_and, Bool.and_assoc]
      unfold m_X1_touch_J55
      rw [show (3 : Int32) = nI 3 from rfl, nI_eq' (by omega) (by omega)]
      refine ⟨fun q => ?_, fun q => ?_⟩
      · unfold m_X1_touch_J71
        exact fin 3 (by rw [if_pos (Or.inl q)])
      · refine r_writesAt hR hV hl hk ?_
        by_cases g : sg T k = 4
        · rw [decide_eq_true g]
          refine ⟨fun w => absurd w (by decide), fun _ => ?_⟩
          unfold m_X1_touch_J71
          exact fin 3 (by rw [if_pos (Or.inr g)])
        · rw [decide_eq_false g]
          exact ⟨fun _ => fin 2 (by rw [if_neg (by omega)]), fun w => absurd rfl w⟩
    unfold m_X1_touch_J40
    rw [show (1 : Int32) = nI 1 from rfl, nI_eq' (by omega) (by omega)]
    refine ⟨fun q => ?_, fun q => J55 15 (fun i a b => by rw [b_15 i b]; simp; omega) (fun _ => rfl) (fun w => absurd q w)⟩
    rcases hs with ⟨a, b⟩ | ⟨a, o, ho, _, b⟩ | ⟨m, hm, a, c, b⟩
    · exact absurd a z0
    · exact absurd a q
    · have e : x &&& 15 = nI m := by
        rw [b, pk_andN (by omega) 4 (by decide)]; congr 1; omega
      rw [e]
      exact J55 (nI m) (sm_nI hm) (fun w => absurd w q) (fun _ => c.symm)
  unfold m_X1_touch m_X1_stateOf
  rw [hst.1]
  refine r_threadAt hR hV hl hk ?_
  rw [show (0 : Int32) = nI 0 from rfl, nI_eq' (by omega) (by omega), show (1 : Int32) = nI 1 from rfl, nI_eq' (by omega) (by omega)]
  refine ⟨fun z0 => ⟨fun z1 => J40 z0 (fun w => absurd w z1), fun z1 => ?_⟩, fun z0 => ?_⟩
  · rcases hs with ⟨a, b⟩ | ⟨a, o, ho, co, b⟩ | ⟨m, hm, a, c, b⟩
    · exact absurd a z0
    · have e : x &&& 3 = nI o := by
        rw [b, pk_andN (by omega) 2 (by decide)]; congr 1; omega
      rw [e, nI_eq' (by omega) (by omega)]
      refine ⟨fun q => J40 z0 (fun _ w => q ?_), fun q => h x ?_⟩
      · rw [co, nI_eq' (by omega) (by omega)] at w; exact w.symm
      · have ew : w3 T lk s k = (s.1, s.2.1, s.2.2.1) := by
          unfold w3
          rw [if_neg z0, if_neg (fun w => w.2 (by rw [co, q])), if_neg (by omega)]
        refine Or.inr (Or.inl ⟨?_, o, ho, ?_, b⟩)
        · show (w3 T lk s k).1 = 1; rw [ew]; exact a
        · show (w3 T lk s k).2.2 = nI o; rw [ew]; exact co
    · omega
  · have e : (16 : Int32) ||| nI (th T k) = nI (16 + th T k) := by
      rw [show (16 : Int32) = nI (2 ^ 4 * 1) from rfl, or_sum 1 (by omega)]
    rw [e]
    refine h _ (Or.inr (Or.inl ⟨?_, th T k, b1, ?_, rfl⟩))
    · show (w3 T lk s k).1 = 1; unfold w3; rw [if_pos z0]
    · show (w3 T lk s k).2.2 = nI (th T k); unfold w3; rw [if_pos z0]
theorem q_watch {b : Nat} {T : Tr} {σ : St} {c n : Nat} {a3 lk : Int32} {u : Nat → Bool} {Q : Int32 → St → Prop} (hR : RowOK b T σ) (hV : Val T) (hl : T.length ≤ 20) (hc : c < 4) (hn : n ≤ T.length) (hu : ∀ k, k < T.length → (nI k = a3 ↔ u k = true)) (h : ∀ x, WCd (wf T c lk u n) x → Q x σ) : m_X1_watch b σ (nI c) (nI n) a3 lk Q := by
  unfold m_X1_watch
  refine lpE2 (m_X1_watch_L6b b (nI c) (nI n) a3 lk Q (fun σ x5 => m_X1_watch_J55 b (nI c) (nI n) a3 lk Q σ x5)) (fun _ => rfl) (fun m τ x y => ∃ k, k ≤ n ∧ y = nI k ∧ m = n - k ∧ τ = σ ∧ WCd (wf T c lk u k) x) ?_ (n := n) ⟨0, by omega, rfl, rfl, rfl, Or.inl ⟨rfl, rfl⟩⟩
  rintro m τ x y Rc ⟨k, hk, rfl, hm, rfl, hx⟩ hRc
  unfold m_X1_watch_L6b
  rw [hR.1, nI_le' (by omega) (by omega), nI_le' (by omega) (by omega)]
  refine ⟨fun q => ?_, fun q => ⟨fun q2 => by omega, fun q2 => ?_⟩⟩
  · have e : k = n := by omega
    subst e
    exact h x hx
  have hk' : k < T.length := by omega
  rw [nI_1]
  have skip : (tcof T k c && !u k) = false → Rc τ x (nI (k + 1)) := by
    intro hz
    refine hRc (n - (k + 1)) _ _ _ (by omega) ⟨k + 1, by omega, rfl, rfl, rfl, ?_⟩
    unfold wf; rw [hz]; exact hx
  rw [hu k hk']
  refine ⟨fun q3 => skip (by rw [q3]; simp), fun q3 => ?_⟩
  have q3' : u k = false := by simpa using q3
  refine r_touchesAt hR hV hl hk' hc ?_
  cases ht : tcof T k c
  · exact ⟨fun _ => skip (by rw [ht]; rfl), fun z => absurd rfl z⟩
  refine ⟨fun z => absurd z (by decide), fun _ => ?_⟩
  refine q_touch hR hV hl hk' hx (fun y hy => ?_)
  refine hRc (n - (k + 1)) _ _ _ (by omega) ⟨k + 1, by omega, rfl, rfl, rfl, ?_⟩
  unfold wf; rw [ht, q3']; exact hy
/-- flagged is: in state 3 without candidates, from then on -/
theorem flg_iff (T : Tr) (c : Nat) (lk : Int32) (u : Nat → Bool) : ∀ n, n < 2147483648 → ((wf T c lk u n).2.2.2.1 ≠ -9 ↔ ((wf T c lk u n).1 = 3 ∧ (wf T c lk u n).2.1 = 0))
  | 0, _ => by
    constructor
    · intro q; exact absurd rfl q
    · intro q; exact absurd q.1 (by show ¬ (0 : Nat) = 3; omega)
  | k + 1, hk => by
    have ih := flg_iff T c lk u k (by omega)
    unfold wf
    split
    · generalize wf T c lk u k = s at ih ⊢
      unfold w5s
      dsimp only
      by_cases q : s.2.2.2.1 = -9
      · have hno : ¬ (s.1 = 3 ∧ s.2.1 = 0) := fun z => (ih.mpr z) q
        by_cases q2 : (w3 T lk s k).1 = 3 ∧ (w3 T lk s k).2.1 = 0
        · rw [if_pos ⟨q, q2.1, q2.2⟩]
          exact ⟨fun _ => q2, fun _ => ne9 k (by omega)⟩
        · rw [if_neg (fun z => q2 z.2)]
          exact ⟨fun z => absurd q z, fun z => absurd z q2⟩
      · rw [if_neg (fun z => q z.1)]
        refine ⟨fun _ => ?_, fun _ => q⟩
        have z := ih.mp q
        unfold w3
        rw [if_neg (by omega), if_neg (by omega), if_pos (by omega)]
        constructor
        · show (if sg T k = 4 then 3 else s.1) = 3
          split
          · rfl
          · exact z.1
        · show s.2.1 &&& (gd T k &&& lk) = 0
          rw [z.2]
          apply b_ext
          intro i hi
          rw [b_and, b_0]; rfl
    · exact ih
theorem wf_succ (T : Tr) (c : Nat) (lk : Int32) (u : Nat → Bool) (k : Nat) : wf T c lk u (k + 1) = if tcof T k c && !u k then w5s T lk (wf T c lk u k) k else wf T c lk u k := rfl
theorem flg_stay (T : Tr) (c : Nat) (lk : Int32) (u : Nat → Bool) {k : Nat} (h : (wf T c lk u k).2.2.2.1 ≠ -9) : ∀ d, (wf T c lk u (k + d)).2.2.2.1 = (wf T c lk u k).2.2.2.1
  | 0 => rfl
  | d + 1 => by
    have ih := flg_stay T c lk u h d
    show (wf T c lk u (k + d + 1)).2.2.2.1 = _
    rw [wf_succ]
    split
    · unfold w5s
      dsimp only
      rw [if_neg (fun z => h (by rw [← ih]; exact z.1))]
      exact ih
    · exact ih
theorem q_flaggedBy {b : Nat} {T : Tr} {σ : St} {c n : Nat} {Q : Int32 → St → Prop} (hR : RowOK b T σ) (hV : Val T) (hl : T.length ≤ 20) (hc : c < 4) (hn : n ≤ T.length) (h : Q (wf T c 15 (fun _ => false) n).2.2.2.1 σ) : m_X1_flaggedBy b σ (nI c) (nI n) Q := by
  unfold m_X1_flaggedBy
  refine lpE2 (m_X1_flaggedBy_L5b b (nI c) (nI n) Q (fun σ x4 => m_X1_flaggedBy_J46 b (nI c) (nI n) Q σ x4) (fun σ => m_X1_flaggedBy_J55 b (nI c) (nI n) Q σ)) (fun _ => rfl) (fun m τ x y => ∃ k, k ≤ n ∧ y = nI k ∧ m = n - k ∧ τ = σ ∧ WCd (wf T c 15 (fun _ => false) k) x ∧ (wf T c 15 (fun _ => false) k).2.2.2.1 = -9) ?_ (n := n) ⟨0, by omega, rfl, rfl, rfl, Or.inl ⟨rfl, rfl⟩, rfl⟩
  rintro m τ x y Rc ⟨k, hk, rfl, hm, rfl, hx, h9⟩ hRc
  unfold m_X1_flaggedBy_L5b
  rw [hR.1, nI_le' (by omega) (by omega), nI_le' (by omega) (by omega)]
  refine ⟨fun q => ?_, fun q => ⟨fun q2 => by omega, fun q2 => ?_⟩⟩
  · have e : k = n := by omega
    subst e
    rw [h9] at h
    exact h
  have hk' : k < T.length := by omega
  rw [nI_1]
  refine r_touchesAt hR hV hl hk' hc ?_
  cases ht : tcof T k c
  · refine ⟨fun _ => ⟨fun q3 => ?_, fun q3 => ?_⟩, fun z => absurd rfl z⟩
    · refine hRc (n - (k + 1)) _ _ _ (by omega) ⟨k + 1, by omega, rfl, rfl, rfl, ?_, ?_⟩
      · unfold wf; rw [ht]; exact hx
      · unfold wf; rw [ht]; exact h9
    · exact absurd h9 ((flg_iff T c 15 (fun _ => false) k (by omega)).mpr (hx.flag.mp q3))
  refine ⟨fun z => absurd z (by decide), fun _ => ?_⟩
  have ew : wf T c 15 (fun _ => false) (k + 1) = w5s T 15 (wf T c 15 (fun _ => false) k) k := by
    show (if tcof T k c && !false then _ else _) = _
    rw [ht]; rfl
  refine q_touch hR hV hl hk' hx (fun y hy => ?_)
  rw [← ew] at hy
  refine ⟨fun q3 => ?_, fun q3 => ?_⟩
  · refine hRc (n - (k + 1)) _ _ _ (by omega) ⟨k + 1, by omega, rfl, rfl, rfl, hy, ?_⟩
    exact Classical.byContradiction (fun z => q3 (hy.flag.mpr ((flg_iff T c 15 (fun _ => false) (k + 1) (by omega)).mp z)))
  · have hfl := hy.flag.mp q3
    have e : (wf T c 15 (fun _ => false) (k + 1)).2.2.2.1 = nI k := by
      rw [ew] at hfl ⊢
      show (if (wf T c 15 (fun _ => false) k).2.2.2.1 = -9 ∧ _ then nI k else _) = nI k
      rw [if_pos ⟨h9, hfl.1, hfl.2⟩]
    have st := flg_stay T c 15 (fun _ => false) (k := k + 1) (by rw [e]; exact ne9 k (by omega)) (n - (k + 1))
    rw [show k + 1 + (n - (k + 1)) = n by omega, e] at st
    rw [st] at h
    exact h
theorem q_touches {b : Nat} {T : Tr} {σ : St} {c n : Nat} {Q : Int32 → St → Prop} (hR : RowOK b T σ) (hV : Val T) (hl : T.length ≤ 20) (hc : c < 4) (hn : n ≤ T.length) (h : Q (nI (wf T c 15 (fun _ => false) n).2.2.2.2) σ) : m_X1_touches b σ (nI c) (nI n) Q := by
  unfold m_X1_touches
  refine lpE2 (m_X1_touches_L5b b (nI c) (nI n) Q (fun σ x3 => m_X1_touches_J39 b (nI c) (nI n) Q σ x3)) (fun _ => rfl) (fun m τ x y => ∃ k, k ≤ n ∧ y = nI k ∧ m = n - k ∧ τ = σ ∧ x = nI (wf T c 15 (fun _ => false) k).2.2.2.2) ?_ (n := n) ⟨0, by omega, rfl, rfl, rfl, rfl⟩
  rintro m τ x y Rc ⟨k, hk, rfl, hm, rfl, rfl⟩ hRc
  unfold m_X1_touches_L5b
  rw [hR.1, nI_le' (by omega) (by omega), nI_le' (by omega) (by omega)]
  refine ⟨fun q => ?_, fun q => ⟨fun q2 => by omega, fun q2 => ?_⟩⟩
  · have e : k = n := by omega
    subst e
    exact h
  have hk' : k < T.length := by omega
  rw [nI_1, nI_1]
  refine r_touchesAt hR hV hl hk' hc ?_
  cases ht : tcof T k c
  · refine ⟨fun _ => ?_, fun z => absurd rfl z⟩
    refine hRc (n - (k + 1)) _ _ _ (by omega) ⟨k + 1, by omega, rfl, rfl, rfl, ?_⟩
    conv => rhs; unfold wf
    rw [ht]; rfl
  · refine ⟨fun z => absurd z (by decide), fun _ => ?_⟩
    refine hRc (n - (k + 1)) _ _ _ (by omega) ⟨k + 1, by omega, rfl, rfl, rfl, ?_⟩
    conv => rhs; unfold wf
    rw [ht]; rfl
