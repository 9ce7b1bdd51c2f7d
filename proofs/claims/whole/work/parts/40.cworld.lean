/-! ===== LockWatch: threads and locks ===== -/
def ltr (g : Nat) : Nat := if g = 0 then 108 else if g = 1 then 115 else if g = 2 then 117 else if g = 3 then 114 else if g = 4 then 119 else if g = 5 then 102 else 106
theorem ltr_lt (g : Nat) : ltr g < 120 := by unfold ltr; (repeat' split) <;> omega
theorem sgn_ltr {g : Nat} (h : g < 7) : sgn (ltr g) = some g := by
  have : g = 0 ∨ g = 1 ∨ g = 2 ∨ g = 3 ∨ g = 4 ∨ g = 5 ∨ g = 6 := by omega
  rcases this with rfl | rfl | rfl | rfl | rfl | rfl | rfl <;> rfl
theorem ltr_sgn {c g : Nat} (h : sgn c = some g) : ltr g = c := by
  unfold sgn at h
  repeat' split at h
  all_goals first | (cases h; done) | (injection h with h; subst h; simp [ltr]; omega)
/-- bits above the fourth are none -/
def sm (x : Int32) : Prop := ∀ i, 4 ≤ i → i < 32 → bt x i = false
def Wsm (w : W4) : Prop := (∀ t, sm (w.1 t)) ∧ (∀ t, sm (w.2.1 t)) ∧ sm w.2.2.1
theorem sm_or {x y : Int32} (h1 : sm x) (h2 : sm y) : sm (x ||| y) := fun i a b => by rw [b_or, h1 i a b, h2 i a b]; rfl
theorem sm_and {x y : Int32} (h1 : sm x) : sm (x &&& y) := fun i a b => by rw [b_and, h1 i a b]; rfl
theorem sm_bit {o : Nat} (h : o < 4) : sm (bitI o) := fun i a b => by rw [b_bit (by omega) b]; simp; omega
theorem sm_15 (y : Int32) : sm (15 &&& y) := fun i a b => by rw [b_and, b_15 i b, decide_eq_false (by omega)]; rfl
theorem sm_0 : sm 0 := fun i _ _ => b_0 i
theorem sm_zero {x : Int32} (h : sm x) : x = 0 ↔ ∀ o, o < 4 → bt x o = false := by
  constructor
  · intro e o _; rw [e]; exact b_0 o
  · intro e
    apply b_ext
    intro i hi
    rw [b_0]
    rcases Nat.lt_or_ge i 4 with q | q
    · exact e i q
    · exact h i q hi
theorem sm_upd {f : Nat → Int32} {k : Nat} {x : Int32} (h : ∀ t, sm (f t)) (hx : sm x) (t : Nat) : sm (upd f k x t) := by
  unfold upd; split
  · exact hx
  · exact h t
theorem Wsm_go {w : W4} {t g o : Nat} (h : Wsm w) (ho : o < 4) : Wsm (wgo w t g o) := by
  obtain ⟨h1, h2, h3⟩ := h
  unfold wgo
  split
  · exact ⟨sm_upd h1 (sm_or (h1 t) (sm_bit ho)), h2, h3⟩
  split
  · exact ⟨h1, sm_upd h2 (sm_or (h2 t) (sm_bit ho)), h3⟩
  split
  · exact ⟨sm_upd h1 (sm_and (h1 t)), sm_upd h2 (sm_and (h2 t)), h3⟩
  split
  · exact ⟨h1, h2, sm_or h3 (sm_bit ho)⟩
  split
  · exact ⟨h1, h2, h3⟩
  · exact ⟨h1, h2, h3⟩
theorem sm_1 : sm 1 := fun i a b => by rw [b_1 i b]; simp; omega
theorem Wsm_wl {T : Tr} (h : ∀ k, k < T.length → ab T k < 4) : ∀ k, k ≤ T.length → Wsm (wl T k)
  | 0, _ => ⟨fun _ => sm_0, fun _ => sm_0, sm_1⟩
  | k + 1, hk => Wsm_go (Wsm_wl h k (by omega)) (h k (by omega))
theorem not_bit (x : Int32) {i : Nat} (hi : i < 32) : bt (x ^^^ (-1)) i = !bt x i := by rw [b_xor, b_m1 i hi]; cases bt x i <;> rfl
theorem m15 (x : Int32) {o : Nat} (ho : o < 4) : bt (15 &&& (x ^^^ (-1))) o = !bt x o := by rw [b_and, b_15 o (by omega), not_bit x (by omega), decide_eq_true ho, Bool.true_and]
theorem lt4 {x : Int32} : (¬ x < 0 ∧ ¬ (4 : Int32) ≤ x) ↔ (0 ≤ x ∧ x ≤ 3) := by
  have e0 : (0 : Int32).toInt = 0 := by decide
  have e3 : (3 : Int32).toInt = 3 := by decide
  have e4 : (4 : Int32).toInt = 4 := by decide
  rw [Int32.lt_iff_toInt_lt, Int32.le_iff_toInt_le, Int32.le_iff_toInt_le, Int32.le_iff_toInt_le]
  omega
theorem q_lives {v : Nat} {σ : St} {w : W4} {t : Nat} {Q : Int32 → St → Prop} (hW : WC v σ w) (ht : t < 4) (h : Q (if wrun w t then 1 else 0) σ) : m_X7_lives v σ (nI t) Q := by
  unfold m_X7_lives
  rw [hW.2.2.1, hW.2.2.2]
  refine ⟨fun q => absurd q (nI_pos (by omega)), fun _ => ⟨fun q => ?_, fun _ => ?_⟩⟩
  · rw [show (4 : Int32) = nI 4 from rfl, nI_le' (by omega) (by omega)] at q; omega
  · rw [hb_val _ (by omega), b_and, not_bit _ (by omega)]
    unfold wrun at h
    cases hb : (bt w.2.2.1 t && !bt w.2.2.2 t)
    · rw [hb] at h; exact ⟨fun _ => h, fun q => absurd q (by decide)⟩
    · rw [hb] at h; exact ⟨fun q => absurd rfl q, fun _ => h⟩
theorem q_lives_n {v : Nat} {σ : St} {x : Int32} {Q : Int32 → St → Prop} (hx : ¬ (0 ≤ x ∧ x ≤ 3)) (h : Q 0 σ) : m_X7_lives v σ x Q := by
  unfold m_X7_lives
  exact ⟨fun _ => h, fun q1 => ⟨fun _ => h, fun q2 => absurd (lt4.mp ⟨q1, q2⟩) hx⟩⟩
theorem q_allToWrite {v : Nat} {σ : St} {w : W4} {Q : Int32 → St → Prop} (hW : WC v σ w) (h : Q (aw w) σ) : m_X7_allToWrite v σ Q := by
  unfold m_X7_allToWrite
  rw [cl0, cl1, cl2, cl3, hW.1 0 (by omega), hW.1 1 (by omega), hW.1 2 (by omega), hW.1 3 (by omega)]
  exact h
theorem q_allToRead {v : Nat} {σ : St} {w : W4} {Q : Int32 → St → Prop} (hW : WC v σ w) (h : Q (ar w) σ) : m_X7_allToRead v σ Q := by
  unfold m_X7_allToRead
  rw [cl0, cl1, cl2, cl3, hW.2.1 0 (by omega), hW.2.1 1 (by omega), hW.2.1 2 (by omega), hW.2.1 3 (by omega)]
  exact h
theorem q_awaitable {v : Nat} {σ : St} {w : W4} {t : Nat} {Q : Int32 → St → Prop} (hW : WC v σ w) (hs : Wsm w) (ht : t < 4) (h : ∀ m, sm m → (∀ o, o < 4 → bt m o = wmay w t 6 o) → Q m σ) : m_X7_awaitable v σ (nI t) Q := by
  unfold m_X7_awaitable bI
  rw [hW.2.2.1, hW.2.2.2]
  refine lpE2 (m_X7_awaitable_L20b v (nI t) Q (fun σ x2 => m_X7_awaitable_J55 v (nI t) Q σ x2)) (fun _ => rfl) (fun n τ x y => ∃ k, k ≤ 4 ∧ y = nI k ∧ n = 4 - k ∧ τ = σ ∧ sm x ∧ ∀ o, o < 4 → bt x o = (decide (o ≠ t) && wrun w o && (decide (k ≤ o) || decide ((w.1 o ||| w.2.1 o) = 0)))) ?_ (n := 4) ⟨0, by omega, rfl, rfl, rfl, sm_and (sm_and hs.2.2), fun o ho => ?_⟩
  · rintro n τ x y Rc ⟨k, hk, rfl, hn, rfl, hx, hb⟩ hR
    unfold m_X7_awaitable_L20b
    rw [show (4 : Int32) = nI 4 from rfl, nI_le' (by omega) (by omega)]
    refine ⟨fun q => h x hx (fun o ho => ?_), fun q => ⟨vp_n (by omega) (by omega), vp_n (by omega) (by omega), ?_⟩⟩
    · rw [hb o ho]
      have : ¬ k ≤ o := by omega
      simp [wmay, this]
    · rw [nI_cl (by omega), hW.1 k (by omega), hW.2.1 k (by omega), nI_1]
      refine ⟨fun z => ?_, fun z => ?_⟩
      · refine hR (4 - (k + 1)) _ _ _ (by omega) ⟨k + 1, by omega, rfl, rfl, rfl, hx, fun o ho => ?_⟩
        rw [hb o ho]
        by_cases e : o = k
        · subst e; simp [z]
        · rw [show decide (k ≤ o) = decide (k + 1 ≤ o) by apply decide_eq_decide.mpr; omega]
      · unfold bI
        refine hR (4 - (k + 1)) _ _ _ (by omega) ⟨k + 1, by omega, rfl, rfl, rfl, sm_and hx, fun o ho => ?_⟩
        rw [b_and, not_bit _ (by omega), show ((1 : Int32) <<< (nI k &&& 31)) = bitI k from rfl, b_bit (by omega) (by omega), hb o ho]
        by_cases e : o = k
        · subst e; simp [z]
        · rw [show decide (k ≤ o) = decide (k + 1 ≤ o) by apply decide_eq_decide.mpr; omega]
          simp [e]
  · rw [b_and, b_and, not_bit _ (by omega), not_bit _ (by omega), show ((1 : Int32) <<< (nI t &&& 31)) = bitI t from rfl, b_bit (by omega) (by omega)]
    unfold wrun
    by_cases e : o = t
    · subst e; simp
    · simp [e]
theorem q_choices {v : Nat} {σ : St} {w : W4} {t c : Nat} {Q : Int32 → St → Prop} (hW : WC v σ w) (hs : Wsm w) (ht : t < 4) (hc : c < 256)
    (h1 : ∀ g m, sgn c = some g → wrun w t = true → sm m → (∀ o, o < 4 → bt m o = wmay w t g o) → Q m σ) (h0 : (wrun w t = false ∨ sgn c = none) → Q 0 σ) : m_X7_choices v σ (nI t) (nI c) Q := by
  unfold m_X7_choices
  refine q_lives hW ht ?_
  cases hr : wrun w t
  · exact ⟨fun q => absurd rfl q, fun _ => h0 (Or.inl hr)⟩
  refine ⟨fun _ => ?_, fun q => absurd q (by decide)⟩
  rw [show (102 : Int32) = nI 102 from rfl, show (106 : Int32) = nI 106 from rfl, show (108 : Int32) = nI 108 from rfl, show (114 : Int32) = nI 114 from rfl, show (115 : Int32) = nI 115 from rfl, show (117 : Int32) = nI 117 from rfl, show (119 : Int32) = nI 119 from rfl]
  rw [nI_eq' (by omega) (by omega), nI_eq' (by omega) (by omega), nI_eq' (by omega) (by omega), nI_eq' (by omega) (by omega), nI_eq' (by omega) (by omega), nI_eq' (by omega) (by omega), nI_eq' (by omega) (by omega)]
  refine ⟨fun q => ?_, fun q => ?_, fun q => ?_, fun q => ?_, fun q => ?_, fun q => ?_, fun q => ?_, fun q => ?_⟩
  · subst q
    rw [hW.2.2.1]
    exact h1 5 _ rfl hr (sm_15 _) (fun o ho => by rw [m15 _ ho]; simp [wmay])
  · subst q
    exact q_awaitable hW hs ht (fun m hm hb => h1 6 m rfl hr hm hb)
  · subst q
    refine q_allToWrite hW (q_allToRead hW ?_)
    exact h1 0 _ rfl hr (sm_15 _) (fun o ho => by rw [m15 _ ho]; simp [wmay])
  · subst q
    exact h1 3 _ rfl hr (fun i a b => by rw [b_15 i b]; simp; omega) (fun o ho => by rw [b_15 o (by omega)]; simp [wmay, ho])
  · subst q
    refine q_allToWrite hW ⟨vp_n ht (by omega), ?_⟩
    rw [nI_cl (by omega), hW.2.1 t ht]
    exact h1 1 _ rfl hr (sm_15 _) (fun o ho => by rw [m15 _ ho]; simp [wmay])
  · subst q
    refine ⟨vp_n ht (by omega), vp_n ht (by omega), ?_⟩
    rw [nI_cl (by omega), hW.1 t ht, hW.2.1 t ht]
    exact h1 2 _ rfl hr (sm_or (hs.1 t) (hs.2.1 t)) (fun o ho => by simp [wmay])
  · subst q
    exact h1 4 _ rfl hr (fun i a b => by rw [b_15 i b]; simp; omega) (fun o ho => by rw [b_15 o (by omega)]; simp [wmay, ho])
  · obtain ⟨q1, q2, q3, q4, q5, q6, q7⟩ := q
    exact h0 (Or.inr (by simp [sgn, q1, q2, q3, q4, q5, q6, q7]))
def Xv (v : Nat) (c i : Nat) : Bool := decide (v ≤ c) && decide (c ≤ v + 2)
theorem Xv_in {v c i : Nat} (h1 : v ≤ c) (h2 : c ≤ v + 2) : Xv v c i = true := by simp [Xv, h1, h2]
theorem Xv_out {v c i : Nat} (h : c < v ∨ v + 2 < c) : Xv v c i = false := by
  simp only [Xv, Bool.and_eq_false_iff, decide_eq_false_iff_not]; omega
theorem q_go {v : Nat} {σ : St} {w : W4} {t g o : Nat} {Q : St → Prop} (hW : WC v σ w) (ht : t < 4) (hg : g < 7) (h : ∀ τ, WC v τ (wgo w t g o) → fr (Xv v) σ τ → Q τ) : m_X7_go v σ (nI t) (nI (ltr g)) (nI o) Q := by
  unfold m_X7_go bI
  have hv : vp_in (nI t) 4 := vp_n ht (by omega)
  have hl := ltr_lt g
  obtain ⟨h1, h2, h3, h4⟩ := hW
  rw [show (102 : Int32) = nI 102 from rfl, show (106 : Int32) = nI 106 from rfl, show (108 : Int32) = nI 108 from rfl, show (115 : Int32) = nI 115 from rfl, show (117 : Int32) = nI 117 from rfl]
  rw [nI_eq' (by omega) (by omega), nI_eq' (by omega) (by omega), nI_eq' (by omega) (by omega), nI_eq' (by omega) (by omega), nI_eq' (by omega) (by omega)]
  have key : ∀ c, ltr g = c → sgn c = some g := fun c e => by rw [← e]; exact sgn_ltr hg
  refine ⟨fun q => ?_, fun q => ?_, fun q => ?_, fun q => ?_, fun q => ?_, fun q => ?_⟩
  · have e := key _ q
    injection e with e; subst e
    unfold sIB
    refine h _ ⟨fun s hs => ?_, fun s hs => ?_, ?_, ?_⟩ (fr_sI fr_rfl _ (Xv_in (by omega) (by omega)))
    · rw [sI_out _ _ (by omega)]; exact h1 s hs
    · rw [sI_out _ _ (by omega)]; exact h2 s hs
    · rw [sI_in, h3]; rfl
    · rw [sI_out _ _ (by omega)]; exact h4
  · have e := key _ q
    injection e with e; subst e
    unfold sIB
    refine h _ ⟨fun s hs => ?_, fun s hs => ?_, ?_, ?_⟩ (fr_sI fr_rfl _ (Xv_in (by omega) (by omega)))
    · rw [sI_out _ _ (by omega)]; exact h1 s hs
    · rw [sI_out _ _ (by omega)]; exact h2 s hs
    · rw [sI_out _ _ (by omega)]; exact h3
    · rw [sI_in, h4]; rfl
  · have e := key _ q
    injection e with e; subst e
    refine ⟨hv, hv, ?_⟩
    unfold sIB
    rw [nI_cl (by omega)]
    refine h _ ⟨fun s hs => ?_, fun s hs => ?_, ?_, ?_⟩ (fr_sI fr_rfl _ (Xv_in (by omega) (by omega)))
    · rw [sI_get, h1 t ht]
      show _ = upd w.1 t (w.1 t ||| bitI o) s
      rw [upd_get]
      by_cases e : s = t
      · simp [e, bitI]
      · simp [e, h1 s hs]
    · rw [sI_out _ _ (by omega)]; exact h2 s hs
    · rw [sI_out _ _ (by omega)]; exact h3
    · rw [sI_out _ _ (by omega)]; exact h4
  · have e := key _ q
    injection e with e; subst e
    refine ⟨hv, hv, ?_⟩
    unfold sIB
    rw [nI_cl (by omega)]
    refine h _ ⟨fun s hs => ?_, fun s hs => ?_, ?_, ?_⟩ (fr_sI fr_rfl _ (Xv_in (by omega) (by omega)))
    · rw [sI_out _ _ (by omega)]; exact h1 s hs
    · rw [sI_get, h2 t ht]
      show _ = upd w.2.1 t (w.2.1 t ||| bitI o) s
      rw [upd_get]
      by_cases e : s = t
      · simp [e, bitI]
      · simp [e, h2 s hs]
    · rw [sI_out _ _ (by omega)]; exact h3
    · rw [sI_out _ _ (by omega)]; exact h4
  · have e := key _ q
    injection e with e; subst e
    refine ⟨hv, hv, ?_⟩
    unfold sIB
    refine ⟨hv, hv, ?_⟩
    rw [nI_cl (by omega)]
    refine h _ ⟨fun s hs => ?_, fun s hs => ?_, ?_, ?_⟩ (fr_sI (fr_sI fr_rfl _ (Xv_in (by omega) (by omega))) _ (Xv_in (by omega) (by omega)))
    · rw [sI_out _ _ (by omega), sI_get, h1 t ht]
      show _ = upd w.1 t (w.1 t &&& (bitI o ^^^ (-1))) s
      rw [upd_get]
      by_cases e : s = t
      · simp [e, bitI]
      · simp [e, h1 s hs]
    · rw [sI_get, sI_out (a := v + 2) _ _ (by omega), h2 t ht]
      show _ = upd w.2.1 t (w.2.1 t &&& (bitI o ^^^ (-1))) s
      rw [upd_get]
      by_cases e : s = t
      · simp [e, bitI]
      · rw [sI_out _ _ (by omega)]; simp [e, h2 s hs]
    · rw [sI_out _ _ (by omega), sI_out _ _ (by omega)]; exact h3
    · rw [sI_out _ _ (by omega), sI_out _ _ (by omega)]; exact h4
  · refine h _ ?_ fr_rfl
    have e : wgo w t g o = w := by
      have : g = 0 ∨ g = 1 ∨ g = 2 ∨ g = 3 ∨ g = 4 ∨ g = 5 ∨ g = 6 := by omega
      rcases this with rfl | rfl | rfl | rfl | rfl | rfl | rfl <;> first | rfl | exact absurd q (by decide)
    rw [e]
    exact ⟨h1, h2, h3, h4⟩
theorem q_fill {q0 n : Nat} {σ : St} {x : Int32} {Q : St → Prop} (hn : n < 1000000) (h : ∀ τ, (∀ j, j < n → τ.1 q0 j = x) → fr (fun c i => c == q0 && decide (i < n)) σ τ → Q τ) : m_J7_fill_53178 q0 n σ x Q := by
  unfold m_J7_fill_53178 bI
  refine lpE1 (m_J7_fill_53178_L5b q0 n x Q (Int32.ofNat n) (fun σ => m_J7_fill_53178_J20 q0 n x Q σ)) (fun _ => rfl) (fun k' τ y => ∃ k, k ≤ n ∧ y = nI k ∧ k' = n - k ∧ (∀ j, j < k → τ.1 q0 j = x) ∧ fr (fun c i => c == q0 && decide (i < n)) σ τ) ?_ (n := n) ⟨0, by omega, rfl, rfl, fun j q => by omega, fr_rfl⟩
  rintro k' τ y Rc ⟨k, hk, rfl, hn', hj, hf⟩ hR
  unfold m_J7_fill_53178_L5b
  rw [show Int32.ofNat n = nI n from rfl, nI_le' (by omega) (by omega)]
  refine ⟨fun q => ?_, fun q => ⟨vp_n (by omega) (by omega), ?_⟩⟩
  · have e : k = n := by omega
    subst e
    exact h τ hj hf
  · unfold sIB
    rw [nI_cl (by omega), nI_1]
    refine hR (n - (k + 1)) _ _ (by omega) ⟨k + 1, by omega, rfl, rfl, fun j hj' => ?_, fr_sI hf _ (by simp; omega)⟩
    by_cases e : j = k
    · subst e; exact sI_in _ _ _ _
    · rw [sI_out _ _ (by omega)]; exact hj j (by omega)
theorem fill_Xv {v q n : Nat} (h1 : v ≤ q) (h2 : q ≤ v + 2) : ∀ c i, Xv v c i = false → (c == q && decide (i < n)) = false := by
  intro c i h
  simp only [Xv, Bool.and_eq_false_iff, decide_eq_false_iff_not] at h
  have : c ≠ q := by omega
  simp [this]
theorem q_wbegin {v : Nat} {σ : St} {Q : St → Prop} (h : ∀ τ, WC v τ w0 → fr (Xv v) σ τ → Q τ) : m_X7_begin v σ Q := by
  unfold m_X7_begin sIB
  refine q_fill (by omega) (fun σ1 h1 hf1 => q_fill (by omega) (fun σ2 h2 hf2 => ?_))
  have g1 := fr_mono hf1 (fill_Xv (v := v) (by omega) (by omega))
  have g2 := fr_mono hf2 (fill_Xv (v := v) (by omega) (by omega))
  have g0 : fr (Xv v) σ (sI (sI σ v 0 1) v 1 0) := fr_sI (fr_sI fr_rfl _ (Xv_in (by omega) (by omega))) _ (Xv_in (by omega) (by omega))
  refine h _ ⟨fun t ht => ?_, fun t ht => h2 t ht, ?_, ?_⟩ (fr_tr (fr_tr g0 g1) g2)
  · rw [hf2.1 (v + 1) t (by simp)]; exact h1 t ht
  · rw [hf2.1 v 0 (by simp), hf1.1 v 0 (by simp), sI_out _ _ (by omega), sI_in]; rfl
  · rw [hf2.1 v 1 (by simp), hf1.1 v 1 (by simp), sI_in]; rfl
