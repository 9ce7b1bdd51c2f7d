/-! ===== what is ahead, in the reference; ahead ===== -/
def X70 (c _i : Nat) : Bool := c == 70
theorem X70_keep : ∀ c i, PF c i = true → X70 c i = false := by
  intro c i h
  simp only [PF, X70, Bool.or_eq_true, Bool.and_eq_true, beq_iff_eq, decide_eq_true_eq, Bool.or_eq_false_iff, Bool.and_eq_false_iff, beq_eq_false_iff_ne] at h ⊢
  omega
theorem p_allBefore {σ : St} {L : Nat} {T : Tr} {Bf : Nat → Int32} {t k : Nat} {Q : Int32 → St → Prop} (hN : NowOK L T σ) (hB : Bnd T) (hL : L < 2) (ht : t < 4) (hk : k ≤ T.length) (hb : ∀ e, e < k → σ.1 70 e = Bf e) (h : Q (allB T Bf t k) σ) : m_X9_allBefore σ (nI L) (nI t) (nI k) Q := by
  unfold m_X9_allBefore
  have hl := hB.1
  refine lpE2 (m_X9_allBefore_L6b (nI L) (nI t) (nI k) Q (fun σ x4 => m_X9_allBefore_J50 (nI L) (nI t) (nI k) Q σ x4)) (fun _ => rfl) (fun m τ x y => ∃ e, e ≤ k ∧ y = nI e ∧ m = k - e ∧ τ = σ ∧ x = allB T Bf t e) ?_ (n := k) ⟨0, by omega, rfl, rfl, rfl, rfl⟩
  rintro m τ x y Rc ⟨e, he, rfl, hm, rfl, rfl⟩ hR
  unfold m_X9_allBefore_L6b
  rw [nI_le' (by omega) (by omega)]
  refine ⟨fun q => ?_, fun q => ?_⟩
  · have e2 : e = k := by omega
    subst e2
    exact h
  · have hth := (hB.2 e (by omega)).1
    refine p_threadAt hN hB hL (by omega) ?_
    rw [nI_eq' (by omega) (by omega), nI_1]
    refine ⟨fun q2 => bI_i ?_, fun q2 => ⟨vp_n (by omega) (by omega), bI_i ?_⟩⟩
    · refine hR (k - (e + 1)) _ _ _ (by omega) ⟨e + 1, by omega, rfl, rfl, rfl, ?_⟩
      rw [allB, if_neg q2]
    · refine hR (k - (e + 1)) _ _ _ (by omega) ⟨e + 1, by omega, rfl, rfl, rfl, ?_⟩
      rw [allB, if_pos q2, nI_cl (by omega), hb e (by omega)]
      rfl
theorem p_findBefore {σ : St} {L : Nat} {T : Tr} {Q : St → Prop} (hN : NowOK L T σ) (hB : Bnd T) (hL : L < 2) (h : ∀ τ, (∀ k, k < T.length → τ.1 70 k = bf T k) → fr X70 σ τ → Q τ) : m_X9_findBefore σ (nI L) Q := by
  unfold m_X9_findBefore
  have hl := hB.1
  refine lpE1 (m_X9_findBefore_L2b (nI L) Q (fun σ => m_X9_findBefore_J147 (nI L) Q σ)) (fun _ => rfl) (fun m τ x => ∃ k, k ≤ T.length ∧ x = nI k ∧ m = T.length - k ∧ fr X70 σ τ ∧ ∀ j, j < k → τ.1 70 j = bf T j) ?_ (n := T.length) ⟨0, by omega, rfl, rfl, fr_rfl, fun j q => by omega⟩
  rintro m τ x Rc ⟨k, hk, rfl, hm, hf, hj⟩ hR
  unfold m_X9_findBefore_L2b
  have hN1 := hN.fr hf (fun _ => rfl)
  refine p_many hN1 hL ?_
  rw [nI_le' (by omega) (by omega)]
  refine ⟨fun q => ?_, fun q => ?_⟩
  · have e2 : k = T.length := by omega
    subst e2
    exact h τ hj hf
  have hkl : k < T.length := by omega
  obtain ⟨b1, b2, b3⟩ := hB.2 k hkl
  refine p_threadAt hN1 hB hL hkl ?_
  refine p_allBefore (Bf := bf T) hN1 hB hL b1 hk hj ⟨vp_n (by omega) (by omega), ?_⟩
  unfold sIB
  rw [nI_cl (by omega)]
  refine lpE1 (m_X9_findBefore_L34b (nI L) Q (nI k) (nI (th T k)) (fun σ => m_X9_findBefore_J105 (nI L) Q (fun σ => m_X9_findBefore_J147 (nI L) Q σ) Rc σ (nI k))) (fun _ => rfl) (fun m τ x => ∃ e, e ≤ k ∧ x = nI e ∧ m = k - e ∧ fr X70 σ τ ∧ (∀ j, j < k → τ.1 70 j = bf T j) ∧ τ.1 70 k = stB T (bf T) (th T k) (allB T (bf T) (th T k) k) e) ?_ (n := k) ⟨0, by omega, rfl, rfl, fr_sI hf _ rfl, fun j q => by rw [sI_out _ _ (by omega)]; exact hj j q, by rw [sI_in]; rfl⟩
  rintro m2 υ x Rc2 ⟨e, he, rfl, hm2, hf2, hj2, hk2⟩ hR2
  unfold m_X9_findBefore_L34b
  have hN2 := hN.fr hf2 (fun _ => rfl)
  rw [nI_le' (by omega) (by omega)]
  refine ⟨fun q2 => ?_, fun q2 => ?_⟩
  · have e2 : e = k := by omega
    subst e2
    unfold m_X9_findBefore_J105
    refine ⟨vp_n (by omega) (by omega), ?_⟩
    refine p_signAt hN2 hB hL hkl ?_
    rw [show (6 : Int32) = nI 6 from rfl, nI_eq' (by omega) (by omega)]
    have fin : ∀ v, v = bf T e → Rc (sI υ 70 e v) (nI e + 1) := by
      intro v hv
      rw [nI_1]
      refine hR (T.length - (e + 1)) _ _ (by omega) ⟨e + 1, by omega, rfl, rfl, fr_sI hf2 _ rfl, fun j hj3 => ?_⟩
      by_cases z : j = e
      · subst z; rw [sI_in, hv]
      · rw [sI_out _ _ (by omega)]; exact hj2 j (by omega)
    refine ⟨fun q3 => ⟨vp_n (by omega) (by omega), ?_⟩, fun q3 => ?_⟩
    · unfold sIB
      rw [nI_cl (by omega)]
      refine fin _ ?_
      rw [bf_eq, if_neg q3, hk2]
    · refine p_aboutAt hN2 hB hL hkl ?_
      refine p_allBefore (Bf := bf T) hN2 hB hL b3 hk hj2 ⟨vp_n (by omega) (by omega), ?_⟩
      unfold sIB
      rw [nI_cl (by omega)]
      refine fin _ ?_
      rw [bf_eq, if_pos q3, hk2]
  · have hel : e < T.length := by omega
    obtain ⟨c1, c2, c3⟩ := hB.2 e hel
    have stp : ∀ v, v = stB T (bf T) (th T k) (allB T (bf T) (th T k) k) (e + 1) → Rc2 (sI υ 70 k v) (nI e + 1) := by
      intro v hv
      rw [nI_1]
      refine hR2 (k - (e + 1)) _ _ (by omega) ⟨e + 1, by omega, rfl, rfl, fr_sI hf2 _ rfl, fun j hj3 => ?_, ?_⟩
      · rw [sI_out _ _ (by omega)]; exact hj2 j hj3
      · rw [sI_in, hv]
    have neg : ¬ (sg T e = 5 ∧ ab T e = th T k) → m_X9_findBefore_J66 (nI L) Q (nI k) (nI (th T k)) (fun σ => m_X9_findBefore_J105 (nI L) Q (fun σ => m_X9_findBefore_J147 (nI L) Q σ) Rc σ (nI k)) Rc2 υ (nI e) := by
      intro z
      unfold m_X9_findBefore_J66 m_X9_findBefore_J67
      refine ⟨vp_n (by omega) (by omega), fun _ => ⟨vp_n (by omega) (by omega), ?_⟩, fun w => absurd rfl w⟩
      unfold sIB
      rw [nI_cl (by omega)]
      refine stp _ ?_
      rw [stB, if_neg z, hk2]
    refine p_signAt hN2 hB hL hel ?_
    rw [show (5 : Int32) = nI 5 from rfl, nI_eq' (by omega) (by omega)]
    refine ⟨fun q3 => neg (fun z => q3 z.1), fun q3 => ?_⟩
    refine p_aboutAt hN2 hB hL hel ?_
    rw [nI_eq' (by omega) (by omega)]
    refine ⟨fun q4 => neg (fun z => q4 z.2), fun q4 => ?_⟩
    unfold m_X9_findBefore_J67
    refine ⟨vp_n (by omega) (by omega), fun w => absurd w (by decide), fun _ => ⟨vp_n (by omega) (by omega), vp_n (by omega) (by omega), ?_⟩⟩
    unfold sIB
    rw [nI_cl (by omega), nI_cl (by omega)]
    refine stp _ ?_
    rw [stB, if_pos ⟨q3, q4⟩, hk2, hj2 e (by omega)]
    rfl
theorem k_ahead {σ : St} (h : Inv σ) (a b : Int32) : m_X8_ahead σ a b (fun r σ1 => m_X9_ahead σ1 a b (fun r2 σ2 => r = r2 ∧ Inv σ2)) := by
  obtain ⟨X, n, T, B, nx, hI⟩ := h
  have hI0 : Inv σ := ⟨X, n, T, B, nx, hI⟩
  obtain ⟨i1, i2, i3, i4, i5, i6, i7, i8, i9, i10, i11⟩ := id hI
  have hB := i5.bnd i6
  unfold m_X8_ahead
  have no : ∀ r : Int32, ((∀ k, k < T.length → a ≠ nI k) ∨ (∀ k, k < T.length → b ≠ nI k)) → r = -1 → m_X9_ahead σ a b (fun r2 σ2 => r = r2 ∧ Inv σ2) := by
    rintro r hno rfl
    unfold m_X9_ahead
    refine p_isStep (L := 0) i4 (by omega) i6 (fun k hk ea => ⟨fun z => absurd z (by decide), fun _ => ?_⟩) (fun _ => ⟨fun _ => ⟨rfl, hI0⟩, fun z => absurd rfl z⟩)
    refine p_isStep (L := 0) i4 (by omega) i6 (fun k2 hk2 eb => ?_) (fun _ => ⟨fun z => absurd rfl z, fun _ => ⟨rfl, hI0⟩⟩)
    rcases hno with w | w
    · exact absurd ea (w k hk)
    · exact absurd eb (w k2 hk2)
  refine q_has i3.1 i6 (fun ka hka ea => ⟨fun z => absurd z (by decide), fun _ => ?_⟩) (fun w => ⟨fun _ => no _ (Or.inl w) rfl, fun z => absurd rfl z⟩)
  refine q_has i3.1 i6 (fun kb hkb eb => ⟨fun _ => ?_, fun z => absurd z (by decide)⟩) (fun w => ⟨fun z => absurd rfl z, fun _ => no _ (Or.inr w) rfl⟩)
  subst ea; subst eb
  have M : ∀ r : Int32, r = (if bt (bf T kb) ka then 1 else 0) → m_X9_ahead σ (nI ka) (nI kb) (fun r2 σ2 => r = r2 ∧ Inv σ2) := by
    intro r hr
    unfold m_X9_ahead
    refine p_isStep (L := 0) i4 (by omega) i6 (fun k hk ea => ⟨fun z => absurd z (by decide), fun _ => ?_⟩) (fun w => absurd rfl (w ka hka))
    refine p_isStep (L := 0) i4 (by omega) i6 (fun k2 hk2 eb => ⟨fun _ => ?_, fun z => absurd z (by decide)⟩) (fun w => absurd rfl (w kb hkb))
    refine p_findBefore (L := 0) i4 hB (by omega) (fun τ hb hf => ⟨vp_n (by omega) (by omega), ?_⟩)
    rw [nI_cl (by omega), hb kb hkb]
    refine p_has (by omega) ?_
    have hI1 : Inv τ := ⟨X, n, T, B, nx, hI.keep (hf.keep X70_keep)⟩
    cases hbt : bt (bf T kb) ka
    · rw [hbt] at hr; exact ⟨fun _ => ⟨by simpa using hr, hI1⟩, fun z => absurd rfl z⟩
    · rw [hbt] at hr; exact ⟨fun z => absurd z (by decide), fun _ => ⟨by simpa using hr, hI1⟩⟩
  refine r_isAhead i3 i6 hkb (by omega) ?_
  cases hbt : bt (bf T kb) ka
  · exact ⟨fun _ => M _ (by rw [hbt]; rfl), fun z => absurd rfl z⟩
  · exact ⟨fun z => absurd z (by decide), fun _ => M _ (by rw [hbt]; rfl)⟩
