/-! ===== slots ===== -/
def Xkp (k c i : Nat) : Bool := (c == 83 && i == k) || (c == 84 && (decide (21 * k ≤ i) && decide (i < 21 * k + 21)))
theorem p_keep {σ : St} {T : Tr} {k : Nat} {Q : Int32 → St → Prop} (hN : NowOK 0 T σ) (hl : T.length ≤ 20) (hk : k < 2) (h : ∀ τ, EncAt 84 (21 * k) T τ → τ.1 83 k = 1 → fr (Xkp k) σ τ → Q (nI T.length) τ) : m_X9_keep σ (nI k) Q := by
  unfold m_X9_keep
  refine p_in2 hk ⟨fun _ => ⟨vp_n hk (by omega), ?_⟩, fun z => absurd z (by decide)⟩
  unfold sIB
  rw [nI_cl (by omega), nar1]
  refine lpE1 (m_X9_keep_L21b (nI k) Q (fun σ => m_X9_keep_J50 (nI k) Q σ)) (fun _ => rfl) (fun m τ x => ∃ j, j ≤ 21 ∧ x = nI j ∧ m = 21 - j ∧ fr (Xkp k) σ τ ∧ τ.1 83 k = 1 ∧ ∀ i, i < j → τ.1 84 (21 * k + i) = σ.1 64 (0 + i)) ?_ (n := 21) ⟨0, by omega, rfl, rfl, fr_sI fr_rfl _ (by simp [Xkp]), sI_in _ _ _ _, fun i q => by omega⟩
  rintro m τ x Rc ⟨j, hj, rfl, hm, hf, h83, hi⟩ hR
  unfold m_X9_keep_L21b
  rw [show (21 : Int32) = nI 21 from rfl, nI_le' (by omega) (by omega), pk_mul, nI_add, nI_cl (by omega), nI_cl (by omega)]
  refine ⟨fun q => ?_, fun q => ⟨vp_n (by omega) (by omega), vp_n (by omega) (by omega), ?_⟩⟩
  · have e : j = 21 := by omega
    subst e
    unfold m_X9_keep_J50
    have hN' : NowOK 0 T τ := hN.fr hf (fun _ => rfl)
    refine p_many (L := 0) hN' (by omega) ?_
    exact h τ (EncAt.copy (c := 64) (b := 0) ⟨hN.1, hN.2⟩ hl hi) h83 hf
  · unfold sIB
    rw [nI_1]
    refine hR (21 - (j + 1)) _ _ (by omega) ⟨j + 1, by omega, rfl, rfl, fr_sI hf _ (by simp [Xkp]; omega), ?_, fun i hi' => ?_⟩
    · rw [sI_out _ _ (by omega)]; exact h83
    · by_cases e : i = j
      · subst e
        rw [sI_in, hf.1 64 i rfl, Nat.zero_add]
      · rw [sI_out _ _ (by omega)]; exact hi i (by omega)
def Xag (c i : Nat) : Bool := (c == 61 && i == 10) || (c == 64 && decide (i < 21))
theorem p_again {σ : St} {K : Tr} {k : Nat} {Q : Int32 → St → Prop} (hE : EncAt 84 (21 * k) K σ) (hl : K.length ≤ 20) (hk : k < 2) (h83 : σ.1 83 k = 1) (h : ∀ τ, NowOK 0 K τ → τ.1 61 10 = 0 → fr Xag σ τ → Q (nI K.length) τ) : m_X9_again σ (nI k) Q := by
  unfold m_X9_again
  refine p_in2 hk ⟨fun _ => ⟨vp_n hk (by omega), ?_⟩, fun z => absurd z (by decide)⟩
  rw [nI_cl (by omega), h83]
  refine ⟨fun _ => ?_, fun z => absurd z (by decide)⟩
  refine lpE1 (m_X9_again_L26b (nI k) Q (fun σ => m_X9_again_J55 (nI k) Q σ)) (fun _ => rfl) (fun m τ x => ∃ j, j ≤ 21 ∧ x = nI j ∧ m = 21 - j ∧ fr Xag σ τ ∧ ∀ i, i < j → τ.1 64 (0 + i) = σ.1 84 (21 * k + i)) ?_ (n := 21) ⟨0, by omega, rfl, rfl, fr_rfl, fun i q => by omega⟩
  rintro m τ x Rc ⟨j, hj, rfl, hm, hf, hi⟩ hR
  unfold m_X9_again_L26b
  rw [show (21 : Int32) = nI 21 from rfl, nI_le' (by omega) (by omega), pk_mul, nI_add, nI_cl (by omega), nI_cl (by omega)]
  refine ⟨fun q => ?_, fun q => ⟨vp_n (by omega) (by omega), vp_n (by omega) (by omega), ?_⟩⟩
  · have e : j = 21 := by omega
    subst e
    unfold m_X9_again_J55 sIB
    have hN0 : EncAt 64 0 K τ := hE.copy hl hi
    have hN1 : EncAt 64 0 K (sI τ 61 10 0) := hN0.fr (X := fun c _ => c == 61) hl (fr_sI fr_rfl _ rfl) (fun _ _ _ => rfl)
    have hN' : NowOK 0 K (sI τ 61 10 0) := ⟨hN1.1, hN1.2⟩
    refine p_many (L := 0) hN' (by omega) ?_
    exact h _ hN' (sI_in _ _ _ _) (fr_sI hf _ rfl)
  · unfold sIB
    rw [nI_1]
    refine hR (21 - (j + 1)) _ _ (by omega) ⟨j + 1, by omega, rfl, rfl, fr_sI hf _ (by simp [Xag]; omega), fun i hi' => ?_⟩
    by_cases e : i = j
    · subst e
      rw [Nat.zero_add, sI_in, hf.1 84 _ rfl]
    · rw [sI_out _ _ (by omega)]; exact hi i (by omega)
theorem keep_inv {X : Nat → Nat} {n : Nat} {T : Tr} {B : List Tr} {nx k : Nat} {σ σ1 σ2 : St} (hI : InvP X n T B nx σ) (hk : k < 2) (hf1 : fr (fun c i => (decide (24 + 10 * k ≤ c) && decide (c ≤ 24 + 10 * k + 9)) || (c == 44 && i == k)) σ σ1) (hR1 : RowOK (24 + 10 * k) T σ1) (h44 : σ1.1 44 k = 1) (hf2 : fr (Xkp k) σ1 σ2) (hE : EncAt 84 (21 * k) T σ2) (h83 : σ2.1 83 k = 1) : InvP X n T B nx σ2 := by
  obtain ⟨i1, i2, i3, i4, i5, i6, i7, i8, i9, i10, i11⟩ := hI
  have x1 : ∀ c i, ¬ (24 + 10 * k ≤ c ∧ c ≤ 24 + 10 * k + 9) → ¬ (c = 44 ∧ i = k) → ((decide (24 + 10 * k ≤ c) && decide (c ≤ 24 + 10 * k + 9)) || (c == 44 && i == k)) = false := fun c i a b => by
    simp only [Bool.or_eq_false_iff, Bool.and_eq_false_iff, beq_eq_false_iff_ne, decide_eq_false_iff_not]; omega
  have x2 : ∀ c i, ¬ (c = 83 ∧ i = k) → ¬ (c = 84 ∧ 21 * k ≤ i ∧ i < 21 * k + 21) → Xkp k c i = false := fun c i a b => by
    simp only [Xkp, Bool.or_eq_false_iff, Bool.and_eq_false_iff, beq_eq_false_iff_ne, decide_eq_false_iff_not]; omega
  have hK : ∀ j, j < 2 → KeptI j σ2 := by
    intro j hj
    by_cases e : j = k
    · subst e
      exact Or.inr ⟨(hf2.1 _ _ (x2 _ _ (by omega) (by omega))).trans h44, h83, T, i5, i6, hR1.fr hf2 (fun c i a b => x2 _ _ (by omega) (by omega)), hE⟩
    · have old : KeptI j σ := by
        have : j = 0 ∨ j = 1 := by omega
        rcases this with rfl | rfl
        · exact i9.1
        · exact i9.2
      exact (old.fr hf1 (x1 _ _ (by omega) (by omega)) (x1 _ _ (by omega) (by omega)) (fun c i a b => x1 _ _ (by omega) (by omega)) (fun i a b => x1 _ _ (by omega) (by omega))).fr hf2 (x2 _ _ (by omega) (by omega)) (x2 _ _ (by omega) (by omega)) (fun c i a b => x2 _ _ (by omega) (by omega)) (fun i a b => x2 _ _ (by omega) (by omega))
  refine ⟨(i1.fr hf1 (x1 _ _ (by omega) (by omega)) (fun _ => x1 _ _ (by omega) (by omega))).fr hf2 (x2 _ _ (by omega) (by omega)) (fun _ => x2 _ _ (by omega) (by omega)), (i2.fr hf1 (x1 _ _ (by omega) (by omega)) (fun _ => x1 _ _ (by omega) (by omega))).fr hf2 (x2 _ _ (by omega) (by omega)) (fun _ => x2 _ _ (by omega) (by omega)), (i3.fr hf1 (fun c i a b => x1 _ _ (by omega) (by omega))).fr hf2 (fun c i a b => x2 _ _ (by omega) (by omega)), (i4.fr hf1 (fun _ => x1 _ _ (by omega) (by omega))).fr hf2 (fun _ => x2 _ _ (by omega) (by omega)), i5, i6, (i7.fr hf1 (x1 _ _ (by omega) (by omega)) (x1 _ _ (by omega) (by omega)) (fun _ => x1 _ _ (by omega) (by omega))).fr hf2 (x2 _ _ (by omega) (by omega)) (x2 _ _ (by omega) (by omega)) (fun _ => x2 _ _ (by omega) (by omega)), (i8.fr hf1 (x1 _ _ (by omega) (by omega)) (fun _ => x1 _ _ (by omega) (by omega)) (fun _ => x1 _ _ (by omega) (by omega))).fr hf2 (x2 _ _ (by omega) (by omega)) (fun _ => x2 _ _ (by omega) (by omega)) (fun _ => x2 _ _ (by omega) (by omega)), ⟨hK 0 (by omega), hK 1 (by omega)⟩, (i10.fr hf1 (x1 _ _ (by omega) (by omega)) (x1 _ _ (by omega) (by omega)) (fun c j a b => x1 _ _ (by omega) (by omega)) (fun c j a b => x1 _ _ (by omega) (by omega))).fr hf2 (x2 _ _ (by omega) (by omega)) (x2 _ _ (by omega) (by omega)) (fun c j a b => x2 _ _ (by omega) (by omega)) (fun c j a b => x2 _ _ (by omega) (by omega)), ?_⟩
  rw [hf2.2, hf1.2]; exact i11
theorem k_keep {σ : St} (h : Inv σ) (a : Int32) : m_X8_keep σ a (fun r σ1 => m_X9_keep σ1 a (fun r2 σ2 => r = r2 ∧ Inv σ2)) := by
  obtain ⟨X, n, T, B, nx, hI⟩ := h
  obtain ⟨i1, i2, i3, i4, i5, i6, i7, i8, i9, i10, i11⟩ := id hI
  unfold m_X8_keep
  rcases arg2 a with ⟨k, hk, rfl⟩ | ⟨ha1, ha2⟩
  rotate_left
  · have fin : m_X9_keep σ a (fun r2 σ2 => -1 = r2 ∧ Inv σ2) := by
      unfold m_X9_keep
      exact p_in2n ha2 ⟨fun z => absurd rfl z, fun _ => ⟨rfl, X, n, T, B, nx, hI⟩⟩
    refine ⟨fun _ => fin, fun q => ⟨fun q2 => ?_, fun _ => fin⟩⟩
    rcases ha1 with w | w
    · exact absurd w q
    · exact absurd q2 w
  have hstep : ∀ σ1, RowOK (24 + 10 * k) T σ1 → fr (XR (24 + 10 * k)) σ σ1 → (vp_in (nI k) 2 ∧ sIB σ1 44 (nI k).toNatClampNeg (vp_nar .boolean 1) (fun σ30 => m_X9_keep σ30 (nI k) (fun r2 σ2 => σ30.1 3 0 = r2 ∧ Inv σ2))) := by
    intro σ1 hR1 hf1
    refine ⟨vp_n hk (by omega), ?_⟩
    unfold sIB
    rw [nI_cl (by omega), nar1]
    have hf : fr (fun c i => (decide (24 + 10 * k ≤ c) && decide (c ≤ 24 + 10 * k + 9)) || (c == 44 && i == k)) σ (sI σ1 44 k 1) := fr_sI (fr_mono hf1 (fun c i q => by
      simp only [Bool.or_eq_false_iff] at q
      exact q.1)) _ (by simp)
    have hN' : NowOK 0 T (sI σ1 44 k 1) := i4.fr hf (fun _ => by simp; omega)
    have hR' : RowOK (24 + 10 * k) T (sI σ1 44 k 1) := hR1.fr (X := fun c _ => c == 44) (fr_sI fr_rfl _ rfl) (fun c i a b => by simp; omega)
    have e3 : (sI σ1 44 k 1).1 3 0 = nI T.length := by
      rw [sI_out _ _ (by omega), hf1.1 3 0 (XR_out (by omega))]; exact i3.1
    refine p_keep hN' i6 hk (fun σ2 hE h83 hf2 => ⟨e3, X, n, T, B, nx, keep_inv hI hk hf hR' (sI_in _ _ _ _) hf2 hE h83⟩)
  refine ⟨fun q => absurd q (nI_pos (by omega)), fun _ => ⟨fun _ => ⟨?_, fun q => ?_, fun q => ?_⟩, fun q => ?_⟩⟩
  · have : k = 0 ∨ k = 1 := by omega
    rcases this with rfl | rfl
    · exact Or.inl rfl
    · exact Or.inr rfl
  · rw [show (0 : Int32) = nI 0 from rfl, nI_eq' (by omega) (by omega)] at q
    subst q
    exact q_copy (by omega) i3 i5 i6 (fun σ1 hR1 hf1 => hstep σ1 hR1 hf1)
  · rw [show (1 : Int32) = nI 1 from rfl, nI_eq' (by omega) (by omega)] at q
    subst q
    exact q_copy (by omega) i3 i5 i6 (fun σ1 hR1 hf1 => hstep σ1 hR1 hf1)
  · rw [show (2 : Int32) = nI 2 from rfl, nI_lt' (by omega) (by omega)] at q; omega
theorem again_inv {X : Nat → Nat} {n : Nat} {T K : Tr} {B : List Tr} {nx : Nat} {σ σ1 σ2 : St} (hI : InvP X n T B nx σ) (hf1 : fr (fun c i => (decide (3 ≤ c) && decide (c ≤ 12)) || (c == 45 && i == 0)) σ σ1) (hR1 : RowOK 3 K σ1) (hKV : Val K) (hKl : K.length ≤ 20) (h45 : σ1.1 45 0 = 0) (hf2 : fr Xag σ1 σ2) (hN : NowOK 0 K σ2) (h10 : σ2.1 61 10 = 0) : InvP X n K [] nx σ2 := by
  obtain ⟨i1, i2, i3, i4, i5, i6, i7, i8, i9, i10, i11⟩ := hI
  have x1 : ∀ c i, ¬ (3 ≤ c ∧ c ≤ 12) → ¬ (c = 45 ∧ i = 0) → ((decide (3 ≤ c) && decide (c ≤ 12)) || (c == 45 && i == 0)) = false := fun c i a b => by
    simp only [Bool.or_eq_false_iff, Bool.and_eq_false_iff, beq_eq_false_iff_ne, decide_eq_false_iff_not]; omega
  have x2 : ∀ c i, ¬ (c = 61 ∧ i = 10) → c ≠ 64 → Xag c i = false := fun c i a b => by
    simp only [Xag, Bool.or_eq_false_iff, Bool.and_eq_false_iff, beq_eq_false_iff_ne, decide_eq_false_iff_not]; omega
  refine ⟨(i1.fr hf1 rfl (fun _ => rfl)).fr hf2 rfl (fun _ => rfl), (i2.fr hf1 rfl (fun _ => rfl)).fr hf2 rfl (fun _ => rfl), hR1.fr hf2 (fun c i a b => x2 _ _ (by omega) (by omega)), hN, hKV, hKl, ⟨by simp, i7.2.1, h10, ((hf2.1 _ _ rfl).trans (hf1.1 _ _ rfl)).trans i7.2.2.2.1, fun j hj => by simp at hj⟩, ⟨(hf2.1 _ _ rfl).trans h45, fun j hj => by simp at hj⟩, (i9.fr hf1 (fun _ => rfl) (fun _ => rfl) (fun c j a b => x1 _ _ (by omega) (by omega)) (fun _ => rfl)).fr hf2 (fun _ => rfl) (fun _ => rfl) (fun c j a b => x2 _ _ (by omega) (by omega)) (fun _ => rfl), (i10.fr hf1 rfl rfl (fun c j a b => x1 _ _ (by omega) (by omega)) (fun c j a b => x1 _ _ (by omega) (by omega))).fr hf2 rfl rfl (fun c j a b => x2 _ _ (by omega) (by omega)) (fun c j a b => x2 _ _ (by omega) (by omega)), ?_⟩
  rw [hf2.2, hf1.2]; exact i11
theorem k_again {σ : St} (h : Inv σ) (a : Int32) : m_X8_again σ a (fun r σ1 => m_X9_again σ1 a (fun r2 σ2 => r = r2 ∧ Inv σ2)) := by
  obtain ⟨X, n, T, B, nx, hI⟩ := h
  obtain ⟨i1, i2, i3, i4, i5, i6, i7, i8, i9, i10, i11⟩ := id hI
  unfold m_X8_again
  rcases arg2 a with ⟨k, hk, rfl⟩ | ⟨ha1, ha2⟩
  rotate_left
  · have fin : m_X9_again σ a (fun r2 σ2 => -1 = r2 ∧ Inv σ2) := by
      unfold m_X9_again
      exact p_in2n ha2 ⟨fun z => absurd rfl z, fun _ => ⟨rfl, X, n, T, B, nx, hI⟩⟩
    refine ⟨fun _ => fin, fun q => ⟨fun q2 => ?_, fun _ => fin⟩⟩
    rcases ha1 with w | w
    · exact absurd w q
    · exact absurd q2 w
  have hKept : KeptI k σ := by
    have : k = 0 ∨ k = 1 := by omega
    rcases this with rfl | rfl
    · exact i9.1
    · exact i9.2
  refine ⟨fun q => absurd q (nI_pos (by omega)), fun _ => ⟨fun _ => ⟨vp_n hk (by omega), ?_⟩, fun q => ?_⟩⟩
  rotate_left
  · rw [show (2 : Int32) = nI 2 from rfl, nI_lt' (by omega) (by omega)] at q; omega
  rw [nI_cl (by omega)]
  rcases hKept with ⟨k44, k83⟩ | ⟨k44, k83, K, hKV, hKl, hKR, hKE⟩
  · rw [k44]
    refine ⟨fun z => absurd rfl z, fun _ => ?_⟩
    unfold m_X9_again
    refine p_in2 hk ⟨fun _ => ⟨vp_n hk (by omega), ?_⟩, fun z => absurd z (by decide)⟩
    rw [nI_cl (by omega), k83]
    exact ⟨fun z => absurd rfl z, fun _ => ⟨rfl, X, n, T, B, nx, hI⟩⟩
  rw [k44]
  have hstep : ∀ σ1, RowOK 3 K σ1 → fr (XR 3) σ σ1 → sIB σ1 45 0 0 (fun σ41 => m_X9_again σ41 (nI k) (fun r2 σ2 => σ41.1 3 0 = r2 ∧ Inv σ2)) := by
    intro σ1 hR1 hf1
    unfold sIB
    have hf : fr (fun c i => (decide (3 ≤ c) && decide (c ≤ 12)) || (c == 45 && i == 0)) σ (sI σ1 45 0 0) := fr_sI (fr_mono hf1 (fun c i q => by
      simp only [Bool.or_eq_false_iff] at q
      exact q.1)) _ (by simp)
    have hR' : RowOK 3 K (sI σ1 45 0 0) := hR1.fr (X := fun c _ => c == 45) (fr_sI fr_rfl _ rfl) (fun c i a b => by simp; omega)
    refine p_again (hKE.fr hKl hf (fun _ _ _ => rfl)) hKl hk ((hf.1 83 k rfl).trans k83) (fun σ2 hN h10 hf2 => ⟨hR'.1, X, n, K, [], nx, again_inv hI hf hR' hKV hKl (sI_in _ _ _ _) hf2 hN h10⟩)
  refine ⟨fun _ => ⟨?_, fun q => ?_, fun q => ?_⟩, fun z => absurd z (by decide)⟩
  · have : k = 0 ∨ k = 1 := by omega
    rcases this with rfl | rfl
    · exact Or.inl rfl
    · exact Or.inr rfl
  · rw [show (0 : Int32) = nI 0 from rfl, nI_eq' (by omega) (by omega)] at q
    subst q
    exact q_copy (by omega) hKR hKV hKl (fun σ1 hR1 hf1 => hstep σ1 hR1 hf1)
  · rw [show (1 : Int32) = nI 1 from rfl, nI_eq' (by omega) (by omega)] at q
    subst q
    exact q_copy (by omega) hKR hKV hKl (fun σ1 hR1 hf1 => hstep σ1 hR1 hf1)
