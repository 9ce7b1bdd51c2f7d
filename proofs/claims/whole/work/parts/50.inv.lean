/-! ===== what holds between the class and the reference, between two calls ===== -/
def nxT (B : List Tr) (T : Tr) (j : Nat) : Tr := (B ++ [T]).getD (j + 1) []
def ActC (B : List Tr) (T : Tr) (σ : St) : Prop := σ.1 45 0 = nI B.length ∧ ∀ j, j < B.length → Val (B.getD j []) ∧ (B.getD j []).length ≤ 20 ∧ ∃ p, σ.1 46 j = nI p ∧ ((p < (B.getD j []).length ∧ nxT B T j = (B.getD j []).eraseIdx p ∧ σ.1 47 j = nI (cod ((B.getD j []).getD p (0, 0, 0)))) ∨ (p + 1 < (B.getD j []).length ∧ nxT B T j = swp (B.getD j []) p ∧ σ.1 47 j = -1))
def KeptI (i : Nat) (σ : St) : Prop := (σ.1 44 i = 0 ∧ σ.1 83 i = 0) ∨ (σ.1 44 i = 1 ∧ σ.1 83 i = 1 ∧ ∃ K, Val K ∧ K.length ≤ 20 ∧ RowOK (24 + 10 * i) K σ ∧ EncAt 84 (21 * i) K σ)
def Kept (σ : St) : Prop := KeptI 0 σ ∧ KeptI 1 σ
def SeenE (i : Nat) (σ : St) : Prop := ∃ c e u, c < 4 ∧ e < 4 ∧ u < 2 ∧ σ.1 49 i = nI c ∧ σ.1 80 i = nI c ∧ σ.1 50 i = nI e ∧ σ.1 81 i = nI e ∧ σ.1 51 i = nI u ∧ σ.1 82 i = nI u
def Seen (σ : St) : Prop := ∃ z, z ≤ 6 ∧ σ.1 48 0 = nI z ∧ σ.1 61 32 = nI z ∧ ∀ i, i < z → SeenE i σ
def InvP (X : Nat → Nat) (n : Nat) (T : Tr) (B : List Tr) (nx : Nat) (σ : St) : Prop := TxtC X n σ ∧ TxtM X n σ ∧ RowOK 3 T σ ∧ NowOK 0 T σ ∧ Val T ∧ T.length ≤ 20 ∧ ActM B nx σ ∧ ActC B T σ ∧ Kept σ ∧ Seen σ ∧ σ.2 0 9 = σ.2 61 36
def Inv (σ : St) : Prop := ∃ X n T B nx, InvP X n T B nx σ
theorem ActC.fr {B : List Tr} {T : Tr} {σ τ : St} {X : Nat → Nat → Bool} (h : ActC B T σ) (hf : fr X σ τ) (h1 : X 45 0 = false) (h2 : ∀ i, X 46 i = false) (h3 : ∀ i, X 47 i = false) : ActC B T τ := by
  refine ⟨(hf.1 _ _ h1).trans h.1, fun j hj => ?_⟩
  rw [hf.1 46 j (h2 j), hf.1 47 j (h3 j)]
  exact h.2 j hj
theorem KeptI.fr {i : Nat} {σ τ : St} {X : Nat → Nat → Bool} (h : KeptI i σ) (hf : fr X σ τ) (h1 : X 44 i = false) (h2 : X 83 i = false) (h3 : ∀ c j, 24 + 10 * i ≤ c → c ≤ 24 + 10 * i + 9 → X c j = false) (h4 : ∀ j, 21 * i ≤ j → j < 21 * i + 21 → X 84 j = false) : KeptI i τ := by
  unfold KeptI
  rw [hf.1 44 i h1, hf.1 83 i h2]
  rcases h with h | ⟨a, b, K, k1, k2, k3, k4⟩
  · exact Or.inl h
  · exact Or.inr ⟨a, b, K, k1, k2, k3.fr hf h3, k4.fr k2 hf h4⟩
theorem Kept.fr {σ τ : St} {X : Nat → Nat → Bool} (h : Kept σ) (hf : fr X σ τ) (h1 : ∀ i, X 44 i = false) (h2 : ∀ i, X 83 i = false) (h3 : ∀ c j, 24 ≤ c → c ≤ 43 → X c j = false) (h4 : ∀ j, X 84 j = false) : Kept τ := ⟨h.1.fr hf (h1 _) (h2 _) (fun c j a b => h3 c j (by omega) (by omega)) (fun j _ _ => h4 j), h.2.fr hf (h1 _) (h2 _) (fun c j a b => h3 c j (by omega) (by omega)) (fun j _ _ => h4 j)⟩
theorem Seen.fr {σ τ : St} {X : Nat → Nat → Bool} (h : Seen σ) (hf : fr X σ τ) (h1 : X 48 0 = false) (h2 : X 61 32 = false) (h3 : ∀ c j, 49 ≤ c → c ≤ 51 → X c j = false) (h4 : ∀ c j, 80 ≤ c → c ≤ 82 → X c j = false) : Seen τ := by
  obtain ⟨z, hz, a, b, c⟩ := h
  refine ⟨z, hz, (hf.1 _ _ h1).trans a, (hf.1 _ _ h2).trans b, fun i hi => ?_⟩
  unfold SeenE
  rw [hf.1 49 i (h3 _ _ (by omega) (by omega)), hf.1 80 i (h4 _ _ (by omega) (by omega)), hf.1 50 i (h3 _ _ (by omega) (by omega)), hf.1 81 i (h4 _ _ (by omega) (by omega)), hf.1 51 i (h3 _ _ (by omega) (by omega)), hf.1 82 i (h4 _ _ (by omega) (by omega))]
  exact c i hi
/-- what lasts -/
def PF (c i : Nat) : Bool := (c == 1 && i == 0) || c == 2 || (decide (3 ≤ c) && decide (c ≤ 12)) || (decide (24 ≤ c) && decide (c ≤ 43)) || c == 44 || (c == 45 && i == 0) || c == 46 || c == 47 || (c == 48 && i == 0) || (decide (49 ≤ c) && decide (c ≤ 51)) || (c == 61 && (i == 6 || i == 10 || i == 11 || i == 32)) || (c == 64 && decide (i < 21)) || c == 65 || c == 69 || (decide (80 ≤ c) && decide (c ≤ 84))
def Keep (σ τ : St) : Prop := (∀ c i, PF c i = true → τ.1 c i = σ.1 c i) ∧ τ.2 0 9 = σ.2 0 9 ∧ τ.2 61 36 = σ.2 61 36
theorem Keep.rfl' {σ : St} : Keep σ σ := ⟨fun _ _ _ => rfl, rfl, rfl⟩
theorem Keep.tr {σ τ υ : St} (h1 : Keep σ τ) (h2 : Keep τ υ) : Keep σ υ := ⟨fun c i h => (h2.1 c i h).trans (h1.1 c i h), h2.2.1.trans h1.2.1, h2.2.2.trans h1.2.2⟩
theorem fr.keep {X : Nat → Nat → Bool} {σ τ : St} (h : fr X σ τ) (hX : ∀ c i, PF c i = true → X c i = false) : Keep σ τ := ⟨fun c i q => h.1 c i (hX c i q), by rw [h.2], by rw [h.2]⟩
theorem InvP.keep {Y : Nat → Nat} {n : Nat} {T : Tr} {B : List Tr} {nx : Nat} {σ τ : St} (h : InvP Y n T B nx σ) (hk : Keep σ τ) : InvP Y n T B nx τ := by
  obtain ⟨i1, i2, i3, i4, i5, i6, i7, i8, i9, i10, i11⟩ := h
  have hf : fr (fun c i => !PF c i) σ (τ.1, σ.2) := ⟨fun c i q => hk.1 c i (by simpa using q), rfl⟩
  have p61 : ∀ i, (i = 6 ∨ i = 10 ∨ i = 11 ∨ i = 32) → (!PF 61 i) = false := by
    rintro i (rfl | rfl | rfl | rfl) <;> rfl
  have prow : ∀ b, (b = 3 ∨ b = 24 ∨ b = 34) → ∀ c i, b ≤ c → c ≤ b + 9 → (!PF c i) = false := by
    intro b hb c i h1 h2
    have : (3 ≤ c ∧ c ≤ 12) ∨ (24 ≤ c ∧ c ≤ 43) := by omega
    rcases this with q | q <;> simp [PF, q.1, q.2]
  refine ⟨i1.fr (τ := (τ.1, σ.2)) hf rfl (fun _ => rfl), i2.fr (τ := (τ.1, σ.2)) hf rfl (fun _ => rfl), i3.fr (τ := (τ.1, σ.2)) hf (prow 3 (by omega)), ?_, i5, i6, i7.fr (τ := (τ.1, σ.2)) hf rfl rfl (fun _ => rfl), i8.fr (τ := (τ.1, σ.2)) hf rfl (fun _ => rfl) (fun _ => rfl), i9.fr (τ := (τ.1, σ.2)) hf (fun _ => rfl) (fun _ => rfl) (fun c j a b => ?_) (fun _ => rfl), i10.fr (τ := (τ.1, σ.2)) hf rfl rfl (fun c j a b => ?_) (fun c j a b => ?_), ?_⟩
  · exact EncAt.fr (c := 64) (b := 0) (τ := (τ.1, σ.2)) ⟨i4.1, i4.2⟩ i6 hf (fun i _ h2 => by simp [PF]; omega)
  · simp [PF, a, b]
  · simp [PF, a, b]
  · have : c ≤ 84 := by omega
    simp [PF, a, this]
  · rw [hk.2.1, hk.2.2]; exact i11
theorem Xw_keep : ∀ c i, PF c i = true → Xw c i = false := by
  intro c i h
  simp only [PF, Xw, Bool.or_eq_true, Bool.and_eq_true, beq_iff_eq, decide_eq_true_eq, Bool.or_eq_false_iff, Bool.and_eq_false_iff, beq_eq_false_iff_ne] at h ⊢
  omega
theorem Xh_keep : ∀ c i, PF c i = true → Xh c i = false := by
  intro c i h
  simp only [PF, Xh, Bool.or_eq_true, Bool.and_eq_true, beq_iff_eq, decide_eq_true_eq, Bool.or_eq_false_iff, Bool.and_eq_false_iff, beq_eq_false_iff_ne] at h ⊢
  omega
theorem Xrt_keep : ∀ c i, PF c i = true → Xrt c i = false := by
  intro c i h
  simp only [PF, Xrt, Bool.or_eq_true, Bool.and_eq_true, beq_iff_eq, decide_eq_true_eq, Bool.or_eq_false_iff, Bool.and_eq_false_iff, beq_eq_false_iff_ne] at h ⊢
  omega
theorem XR13_keep : ∀ c i, PF c i = true → XR 13 c i = false := by
  intro c i h
  simp only [PF, XR, Bool.or_eq_true, Bool.and_eq_true, beq_iff_eq, decide_eq_true_eq, Bool.and_eq_false_iff, decide_eq_false_iff_not] at h ⊢
  omega
theorem Xrg1_keep : ∀ c i, PF c i = true → Xrg 64 (21 * 1) c i = false := by
  intro c i h
  simp only [PF, Xrg, Bool.or_eq_true, Bool.and_eq_true, beq_iff_eq, decide_eq_true_eq, Bool.and_eq_false_iff, decide_eq_false_iff_not, beq_eq_false_iff_ne] at h ⊢
  omega
/-! the text -/
theorem neg_lt {x : Int32} (h : x < 0) : ∀ b : Int32, ¬ ((0 : Int64) ≤ x.toInt64 ∧ x.toInt64 ≤ b.toInt64) := by
  intro b q
  have := q.1
  rw [show (0 : Int64) = (0 : Int32).toInt64 by decide, i64_le, Int32.le_iff_toInt_le] at this
  rw [Int32.lt_iff_toInt_lt] at h
  omega
theorem k_write {σ : St} (h : Inv σ) (a : Int32) : m_X8_write σ a (fun r σ1 => m_X9_write σ1 a (fun r2 σ2 => r = r2 ∧ Inv σ2)) := by
  obtain ⟨X, n, T, B, nx, hI⟩ := h
  obtain ⟨i1, i2, i3, i4, i5, i6, i7, i8, i9, i10, i11⟩ := id hI
  have hn := i1.1
  have e255 : (255 : Int64) = (255 : Int32).toInt64 := by decide
  unfold m_X8_write
  refine ⟨fun q => ?_, fun q => ⟨fun q2 => ?_, fun q2 => ?_⟩⟩
  · unfold m_X9_write
    refine p_in (fun z1 z2 => ?_) (fun _ => ⟨fun z => absurd rfl z, fun _ => ⟨rfl, X, n, T, B, nx, hI⟩⟩)
    rw [e255] at z2
    exact absurd ⟨z1, z2⟩ (neg_lt q _)
  · obtain ⟨c, hc, rfl⟩ : ∃ c, c ≤ 255 ∧ a = nI c := nI_of2 (M := 255) (by decide) q q2
    unfold m_X6_put
    rw [i1.2.1, show (64 : Int32) = nI 64 from rfl, nI_lt' (by omega) (by omega)]
    have inr : ∀ σ1 : St, σ1.1 61 6 = nI n → (σ1.1 61 6 = nI n → (¬ n = 64 → vp_in (nI n) 64 ∧ sIB σ1 65 n (nI c) (fun σ36 => sIB σ36 61 6 ((σ36.1 61 6) + 1) (fun σ44 => True)))) := fun _ _ _ hn' => ⟨vp_n (by omega) (by omega), trivial⟩
    refine ⟨fun q3 => ⟨vp_n (by omega) (by omega), ?_⟩, fun q3 => ⟨fun _ => ?_, fun z => absurd rfl z⟩⟩
    · unfold sIB
      dsimp only
      rw [nI_cl (by omega), sI_out (a := 1) (j := 0) _ _ (by omega), i1.2.1, nI_1]
      refine ⟨fun z => absurd z (by decide), fun _ => ?_⟩
      rw [sI_in]
      unfold m_X9_write
      refine p_in (fun _ _ => ?_) (fun z => absurd ?_ z)
      · refine ⟨fun _ => ?_, fun z => absurd z (by decide)⟩
        rw [sI_out (a := 61) (j := 6) _ _ (by omega), sI_out (a := 61) (j := 6) _ _ (by omega), i2.2.1, show (64 : Int32) = nI 64 from rfl, nI_eq' (by omega) (by omega)]
        refine ⟨fun _ => ⟨vp_n (by omega) (by omega), ?_⟩, fun z => absurd z (by omega)⟩
        unfold sIB
        dsimp only
        rw [nI_cl (by omega), sI_out (a := 61) (j := 6) (c := 65) _ _ (by omega), sI_out (a := 61) (j := 6) (c := 1) _ _ (by omega), sI_out (a := 61) (j := 6) (c := 2) _ _ (by omega), i2.2.1, nI_1, sI_in]
        refine ⟨rfl, (fun i => if i = n then c else X i), n + 1, T, B, nx, ?_⟩
        have hf : fr (fun c i => c == 1 || c == 2 || c == 65 || (c == 61 && i == 6)) σ (sI (sI (sI (sI σ 2 n (nI c)) 1 0 (nI (n + 1))) 65 n (nI c)) 61 6 (nI (n + 1))) := fr_sI (fr_sI (fr_sI (fr_sI fr_rfl _ rfl) _ rfl) _ rfl) _ rfl
        refine ⟨⟨by omega, ?_, fun i hi => ?_⟩, ⟨by omega, sI_in _ _ _ _, fun i hi => ?_⟩, i3.fr hf (fun c i a b => ?_), i4.fr hf (fun _ => rfl), i5, i6, i7.fr hf rfl rfl (fun _ => rfl), i8.fr hf rfl (fun _ => rfl) (fun _ => rfl), i9.fr hf (fun _ => rfl) (fun _ => rfl) (fun c j a b => ?_) (fun _ => rfl), i10.fr hf rfl rfl (fun c j a b => ?_) (fun c j a b => ?_), i11⟩
        · rw [sI_out _ _ (by omega), sI_out _ _ (by omega), sI_in]
        · rw [sI_out _ _ (by omega), sI_out _ _ (by omega), sI_out _ _ (by omega), sI_get]
          by_cases e : i = n
          · simp [e]; omega
          · simp [e]; exact i1.2.2 i (by omega)
        · rw [sI_out _ _ (by omega), sI_get]
          by_cases e : i = n
          · simp [e]; omega
          · simp [e]; rw [sI_out _ _ (by omega), sI_out _ _ (by omega)]; exact i2.2.2 i (by omega)
        all_goals simp only [Bool.or_eq_false_iff, Bool.and_eq_false_iff, beq_eq_false_iff_ne]; omega
      · rw [show (0 : Int64) = (0 : Int32).toInt64 by decide, e255, i64_le, i64_le]
        exact ⟨nI_pos' (by omega), nI_le (b := 255) (by omega) (by decide)⟩
    · unfold m_X9_write
      refine p_in (fun _ _ => ?_) (fun z => absurd ?_ z)
      · refine ⟨fun _ => ?_, fun z => absurd z (by decide)⟩
        rw [i2.2.1, show (64 : Int32) = nI 64 from rfl, nI_eq' (by omega) (by omega)]
        exact ⟨fun z => absurd (by omega) z, fun _ => ⟨rfl, X, n, T, B, nx, hI⟩⟩
      · rw [show (0 : Int64) = (0 : Int32).toInt64 by decide, e255, i64_le, i64_le]
        exact ⟨nI_pos' (by omega), nI_le (b := 255) (by omega) (by decide)⟩
  · unfold m_X9_write
    refine p_in (fun z1 z2 => ?_) (fun _ => ⟨fun z => absurd rfl z, fun _ => ⟨rfl, X, n, T, B, nx, hI⟩⟩)
    rw [e255, i64_le] at z2
    exact absurd z2 q2
theorem k_wipe {σ : St} (h : Inv σ) : m_X8_wipe σ (fun r σ1 => m_X9_wipe σ1 (fun r2 σ2 => r = r2 ∧ Inv σ2)) := by
  obtain ⟨X, n, T, B, nx, i1, i2, i3, i4, i5, i6, i7, i8, i9, i10, i11⟩ := h
  unfold m_X8_wipe m_X9_wipe
  refine bI_i ?_
  unfold sIB
  refine bI_i ?_
  rw [i1.2.1, sI_out (a := 61) (j := 6) _ _ (by omega), i2.2.1]
  refine ⟨rfl, X, 0, T, B, nx, ?_⟩
  have hf : fr (fun c i => c == 1 || (c == 61 && i == 6)) σ (sI (sI σ 1 0 0) 61 6 0) := fr_sI (fr_sI fr_rfl _ rfl) _ rfl
  refine ⟨⟨by omega, ?_, fun i hi => by omega⟩, ⟨by omega, sI_in _ _ _ _, fun i hi => by omega⟩, i3.fr hf (fun c i a b => ?_), i4.fr hf (fun _ => rfl), i5, i6, i7.fr hf rfl rfl (fun _ => rfl), i8.fr hf rfl (fun _ => rfl) (fun _ => rfl), i9.fr hf (fun _ => rfl) (fun _ => rfl) (fun c j a b => ?_) (fun _ => rfl), i10.fr hf rfl rfl (fun c j a b => ?_) (fun c j a b => ?_), i11⟩
  · rw [sI_out _ _ (by omega), sI_in]; rfl
  all_goals simp only [Bool.or_eq_false_iff, Bool.and_eq_false_iff, beq_eq_false_iff_ne]; omega
theorem k_fault {σ : St} (h : Inv σ) : m_X8_fault σ (fun r σ1 => m_X9_fault σ1 (fun r2 σ2 => r = r2 ∧ Inv σ2)) := by
  obtain ⟨X, n, T, B, nx, hI⟩ := h
  unfold m_X8_fault m_X9_fault
  refine q_tell (by omega) hI.1 (fun σ1 hR1 hf1 => ?_)
  have hI1 := hI.keep (hf1.keep XR13_keep)
  exact p_readText hI1.2.1 (fun σ2 hE2 hf2 => ⟨rfl, X, n, T, B, nx, hI1.keep (hf2.keep Xrt_keep)⟩)
