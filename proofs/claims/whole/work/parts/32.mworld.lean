/-! ===== LockWatchModel: numbers, threads, locks ===== -/
def Xw (c i : Nat) : Bool := c == 62 || c == 63 || (c == 61 && (i == 2 || i == 3))
theorem p_in {σ : St} {a b c : Int64} {Q : Int32 → St → Prop} (h1 : b ≤ a → a ≤ c → Q 1 σ) (h0 : ¬ (b ≤ a ∧ a ≤ c) → Q 0 σ) : m_X9_in σ a b c Q := by
  unfold m_X9_in
  rw [lg_cmp_lt, lg_cmp_gt]
  refine ⟨fun h => h0 (fun q => ?_), fun h => ⟨fun h2 => h0 (fun q => ?_), fun h2 => h1 ?_ ?_⟩⟩
  · have := q.1; rw [Int64.le_iff_toInt_le] at this; rw [Int64.lt_iff_toInt_lt] at h; omega
  · have := q.2; rw [Int64.le_iff_toInt_le] at this; rw [Int64.lt_iff_toInt_lt] at h2; omega
  · rw [Int64.lt_iff_toInt_lt] at h; rw [Int64.le_iff_toInt_le]; omega
  · rw [Int64.lt_iff_toInt_lt] at h2; rw [Int64.le_iff_toInt_le]; omega
theorem i4_iff (x : Int32) : ((0 : Int64) ≤ x.toInt64 ∧ x.toInt64 ≤ 3) ↔ (0 ≤ x ∧ x ≤ 3) := by
  have e0 : (0 : Int64) = (0 : Int32).toInt64 := by decide
  have e3 : (3 : Int64) = (3 : Int32).toInt64 := by decide
  rw [e0, e3, i64_le, i64_le]
theorem arg4 (x : Int32) : (∃ k, k < 4 ∧ x = nI k) ∨ ¬ (0 ≤ x ∧ x ≤ 3) := by
  rcases arg_n x (n := 4) (by decide) with h | h | h
  · exact Or.inl h
  · refine Or.inr (fun q => ?_)
    have := q.1; rw [Int32.le_iff_toInt_le] at this; rw [Int32.lt_iff_toInt_lt] at h; omega
  · refine Or.inr (fun q => ?_)
    have := q.2; rw [Int32.le_iff_toInt_le] at this h
    have e : (nI 4).toInt = 4 := by decide
    have e3 : (3 : Int32).toInt = 3 := by decide
    omega
theorem nI_in4 {k : Nat} (h : k < 4) : (0 : Int32) ≤ nI k ∧ nI k ≤ 3 := ⟨nI_pos' (by omega), nI_le (b := 3) (by omega) (by decide)⟩
theorem p_in4 {σ : St} {k : Nat} {Q : Int32 → St → Prop} (hk : k < 4) (h : Q 1 σ) : m_X9_in σ (nI k).toInt64 0 3 Q :=
  p_in (fun _ _ => h) (fun q => absurd ((i4_iff _).mpr (nI_in4 hk)) q)
theorem p_in4n {σ : St} {x : Int32} {Q : Int32 → St → Prop} (hx : ¬ (0 ≤ x ∧ x ≤ 3)) (h : Q 0 σ) : m_X9_in σ x.toInt64 0 3 Q :=
  p_in (fun h1 h2 => absurd ((i4_iff _).mp ⟨h1, h2⟩) hx) (fun _ => h)
theorem p_has {σ : St} {s : Int32} {o : Nat} {Q : Int32 → St → Prop} (ho : o < 32) (h : Q (if bt s o then 1 else 0) σ) : m_X9_has σ s (nI o) Q := by
  unfold m_X9_has
  rw [hb_val s ho]
  cases hb : bt s o
  · rw [hb] at h; exact ⟨fun _ => h, fun q => absurd q (by decide)⟩
  · rw [hb] at h; exact ⟨fun q => absurd rfl q, fun _ => h⟩
theorem p_isRunning {σ : St} {w : W4} {t : Nat} {Q : Int32 → St → Prop} (hW : WM σ w) (ht : t < 4) (h : Q (if wrun w t then 1 else 0) σ) : m_X9_isRunning σ (nI t) Q := by
  unfold m_X9_isRunning
  refine p_in4 ht ?_
  refine ⟨fun q => absurd q (by decide), fun _ => ?_⟩
  refine p_has (by omega) ?_
  rw [hW.2.2.1]
  unfold wrun at h
  cases h1 : bt w.2.2.1 t
  · rw [h1] at h; exact ⟨fun _ => h, fun q => absurd rfl q⟩
  · refine ⟨fun q => absurd q (by decide), fun _ => ?_⟩
    refine p_has (by omega) ?_
    rw [hW.2.2.2]
    rw [h1] at h
    cases h2 : bt w.2.2.2 t
    · rw [h2] at h; exact ⟨fun q => absurd rfl q, fun _ => h⟩
    · rw [h2] at h; exact ⟨fun _ => h, fun q => absurd q (by decide)⟩
theorem p_isRunning_n {σ : St} {x : Int32} {Q : Int32 → St → Prop} (hx : ¬ (0 ≤ x ∧ x ≤ 3)) (h : Q 0 σ) : m_X9_isRunning σ x Q := by
  unfold m_X9_isRunning
  exact p_in4n hx ⟨fun _ => h, fun q => absurd rfl q⟩
theorem cl0 : (0 : Int32).toNatClampNeg = 0 := by decide
theorem cl1 : (1 : Int32).toNatClampNeg = 1 := by decide
theorem cl2 : (2 : Int32).toNatClampNeg = 2 := by decide
theorem cl3 : (3 : Int32).toNatClampNeg = 3 := by decide
theorem p_writeHeld {σ : St} {w : W4} {Q : Int32 → St → Prop} (hW : WM σ w) (h : Q (aw w) σ) : m_X9_writeHeld σ Q := by
  unfold m_X9_writeHeld
  rw [cl0, cl1, cl2, cl3, hW.1 0 (by omega), hW.1 1 (by omega), hW.1 2 (by omega), hW.1 3 (by omega)]
  exact h
theorem p_readHeld {σ : St} {w : W4} {Q : Int32 → St → Prop} (hW : WM σ w) (h : Q (ar w) σ) : m_X9_readHeld σ Q := by
  unfold m_X9_readHeld
  rw [cl0, cl1, cl2, cl3, hW.2.1 0 (by omega), hW.2.1 1 (by omega), hW.2.1 2 (by omega), hW.2.1 3 (by omega)]
  exact h
theorem bool01 (b : Bool) : narrow .boolean (.int (if b then 1 else 0)) = .int (if b then 1 else 0) := by cases b <;> decide
theorem p_isFree {σ : St} {w : W4} {t g o : Nat} {Q : Int32 → St → Prop} (hW : WM σ w) (ht : t < 4) (hg : g < 3) (ho : o < 4) (h : Q (if wmay w t g o then 1 else 0) σ) : m_X9_isFree σ (nI t) (nI g) (nI o) Q := by
  unfold m_X9_isFree
  have e0 : (0 : Int32) = nI 0 := rfl
  have e1 : (1 : Int32) = nI 1 := rfl
  unfold wmay at h
  refine ⟨fun hg0 => ⟨fun hg1 => ?_, fun hg1 => ?_⟩, fun hg0 => ?_⟩
  · have g2 : g = 2 := by
      rw [e0, nI_eq' (by omega) (by omega)] at hg0
      rw [e1, nI_eq' (by omega) (by omega)] at hg1
      omega
    subst g2
    refine ⟨vp_n ht (by omega), vp_n ht (by omega), ?_⟩
    rw [nI_cl (by omega), hW.1 t ht, hW.2.1 t ht]
    refine p_has (by omega) ?_
    exact ⟨bool01 _, h⟩
  · have g1 : g = 1 := by rwa [e1, nI_eq' (by omega) (by omega)] at hg1
    subst g1
    refine p_writeHeld hW ?_
    refine ⟨vp_n ht (by omega), ?_⟩
    rw [nI_cl (by omega), hW.2.1 t ht]
    refine p_has (by omega) ?_
    simp only [Nat.succ_ne_zero, if_false, if_true] at h
    cases hb : bt (aw w ||| w.2.1 t) o
    · rw [hb] at h; exact ⟨fun q => absurd rfl q, fun _ => h⟩
    · rw [hb] at h; exact ⟨fun _ => h, fun q => absurd q (by decide)⟩
  · have g0 : g = 0 := by rwa [e0, nI_eq' (by omega) (by omega)] at hg0
    subst g0
    refine p_writeHeld hW ?_
    refine p_readHeld hW ?_
    refine p_has (by omega) ?_
    simp only [if_true] at h
    cases hb : bt (aw w ||| ar w) o
    · rw [hb] at h; exact ⟨fun q => absurd rfl q, fun _ => h⟩
    · rw [hb] at h; exact ⟨fun _ => h, fun q => absurd q (by decide)⟩
theorem p_mayBe {σ : St} {w : W4} {t g o : Nat} {Q : Int32 → St → Prop} (hW : WM σ w) (ht : t < 4) (hg : g < 7) (ho : o < 4) (h : Q (if wmay w t g o then 1 else 0) σ) : m_X9_mayBe σ (nI t) (nI g) (nI o) Q := by
  unfold m_X9_mayBe
  refine p_in4 ho ?_
  refine ⟨fun _ => ⟨fun h3 => ⟨fun h5 => ⟨fun hn5 => ⟨fun hot => ?_, fun hot => ?_⟩, fun h5' => ?_⟩, fun h5 => ?_⟩, fun h3 => ?_⟩, fun q => absurd q (by decide)⟩
  all_goals have e3 : (3 : Int32) = nI 3 := rfl
  all_goals have e5 : (5 : Int32) = nI 5 := rfl
  · rw [e3, nI_le' (by omega) (by omega)] at h3
    rw [e5, nI_le' (by omega) (by omega)] at h5
    rw [e5, nI_eq' (by omega) (by omega)] at hn5
    rw [nI_eq' (by omega) (by omega)] at hot
    have g6 : g = 6 := by omega
    subst g6; subst hot
    simpa [wmay] using h
  · rw [e3, nI_le' (by omega) (by omega)] at h3
    rw [e5, nI_le' (by omega) (by omega)] at h5
    rw [e5, nI_eq' (by omega) (by omega)] at hn5
    rw [nI_eq' (by omega) (by omega)] at hot
    have g6 : g = 6 := by omega
    subst g6
    refine p_isRunning hW ho ?_
    cases hr : wrun w o
    · refine ⟨fun _ => ?_, fun q => absurd rfl q⟩
      simpa [wmay, hr] using h
    · refine ⟨fun q => absurd q (by decide), fun _ => ⟨vp_n ho (by omega), vp_n ho (by omega), ?_⟩⟩
      rw [nI_cl (by omega), hW.1 o ho, hW.2.1 o ho]
      refine ⟨fun q => ?_, fun q => ?_⟩
      · simpa [wmay, hr, hot, q] using h
      · simpa [wmay, hr, hot, q] using h
  · rw [e5, nI_eq' (by omega) (by omega)] at h5'
    subst h5'
    refine p_has (by omega) ?_
    rw [hW.2.2.1]
    simp [wmay] at h
    cases hb : bt w.2.2.1 o
    · rw [hb] at h; exact ⟨fun q => absurd rfl q, fun _ => by simpa using h⟩
    · rw [hb] at h; exact ⟨fun _ => by simpa using h, fun q => absurd q (by decide)⟩
  · rw [e3, nI_le' (by omega) (by omega)] at h3
    rw [e5, nI_le' (by omega) (by omega)] at h5
    have q0 : ¬ g = 0 := by omega
    have q1 : ¬ g = 1 := by omega
    have q2 : ¬ g = 2 := by omega
    have q5 : g < 5 := by omega
    simpa [wmay, q0, q1, q2, q5] using h
  · rw [e3, nI_le' (by omega) (by omega)] at h3
    refine p_isFree hW ht (by omega) ho ?_
    exact ⟨bool01 _, h⟩
theorem p_mayBe_n {σ : St} {t g x : Int32} {Q : Int32 → St → Prop} (hx : ¬ (0 ≤ x ∧ x ≤ 3)) (h : Q 0 σ) : m_X9_mayBe σ t g x Q := by
  unfold m_X9_mayBe
  exact p_in4n hx ⟨fun q => absurd rfl q, fun _ => h⟩
