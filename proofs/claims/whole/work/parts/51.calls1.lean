/-! ===== trace, drop, swap, undo ===== -/
theorem nar0 : vp_nar .boolean 0 = 0 := by decide
theorem nar1 : vp_nar .boolean 1 = 1 := by decide
def Xtr (c i : Nat) : Bool := c == 66 || c == 62 || c == 63 || c == 64 || c == 83 || (c == 61 && (i == 2 || i == 3 || i == 10))
theorem Xrt_tr : ∀ c i, Xtr c i = false → Xrt c i = false := by
  intro c i h
  simp only [Xtr, Xrt, Bool.or_eq_false_iff, Bool.and_eq_false_iff, beq_eq_false_iff_ne] at h ⊢
  omega
theorem p_trace {σ : St} {X : Nat → Nat} {n : Nat} {Q : Int32 → St → Prop} (hX : TxtM X n σ) (h9 : (rdt X n).1 = none → ∀ τ, NowOK 0 (rdt X n).2 τ → τ.1 61 10 = 0 → τ.1 83 0 = 0 → τ.1 83 1 = 0 → fr Xtr σ τ → Q (nI (rdt X n).2.length) τ) (h3 : (rdt X n).1 ≠ none → ∀ τ, fr Xrt σ τ → Q (-3) τ) : m_X9_trace σ Q := by
  unfold m_X9_trace
  refine p_readText hX (fun σ1 hE hf => ?_)
  cases hr : (rdt X n).1 with
  | some p =>
    refine ⟨fun z => ?_, fun _ => h3 (by rw [hr]; simp) σ1 hf⟩
    exfalso
    have hp7 : p < 100 := by
      have hn := hX.1
      have : ∀ (f k : Nat) (T : Tr) (p : Nat) (U : Tr), k ≤ n + 2 → rd X n f k T = (some p, U) → p ≤ n + 4 := by
        intro f
        induction f with
        | zero => intro k T p U hk e; unfold rd at e; cases e
        | succ f ih =>
          intro k T p U hk e
          unfold rd at e
          split at e
          · cases e
          split at e
          · injection e with e1 e2; injection e1 with e1; omega
          split at e
          · injection e with e1 e2; injection e1 with e1; omega
          split at e
          · injection e with e1 e2; injection e1 with e1; omega
          split at e
          · injection e with e1 e2; injection e1 with e1; omega
          split at e
          · injection e with e1 e2; injection e1 with e1; omega
          split at e
          · exact ih _ _ _ _ (by omega) e
          · injection e with e1 e2; injection e1 with e1; omega
      unfold rdt at hr
      split at hr
      · injection hr with hr; omega
      · have := this 21 1 [] p (rd X n 21 1 []).2 (by omega) (by rw [← hr])
        omega
    exact ne9 p (by omega) z
  | none =>
    obtain ⟨hV, hl⟩ := rdt_ok X n
    refine ⟨fun _ => ?_, fun z => absurd rfl z⟩
    refine lpE1 (m_X9_trace_L14b Q (fun σ => m_X9_trace_J38 Q σ)) (fun _ => rfl) (fun m τ x => ∃ k, k ≤ 21 ∧ x = nI k ∧ m = 21 - k ∧ fr Xtr σ τ ∧ (∀ j, τ.1 66 j = σ1.1 66 j) ∧ ∀ j, j < k → τ.1 64 (0 + j) = σ1.1 66 (0 + j)) ?_ (n := 21) ⟨0, by omega, rfl, rfl, fr_mono hf Xrt_tr, fun _ => rfl, fun j q => by omega⟩
    rintro m τ x Rc ⟨k, hk, rfl, hm, hf2, h66, hj⟩ hR
    unfold m_X9_trace_L14b
    rw [show (21 : Int32) = nI 21 from rfl, nI_le' (by omega) (by omega)]
    refine ⟨fun q => ?_, fun q => ⟨vp_n (by omega) (by omega), vp_n (by omega) (by omega), ?_⟩⟩
    · have e : k = 21 := by omega
      subst e
      have hN : EncAt 64 0 (rdt X n).2 τ := hE.copy hl hj
      unfold m_X9_trace_J38 sIB
      refine ⟨vp_n (n := 0) (by omega) (by omega), vp_n (n := 1) (by omega) (by omega), ?_⟩
      rw [nar0, cl0, cl1]
      have hf3 : fr Xtr σ (sI (sI (sI τ 61 10 0) 83 0 0) 83 1 0) := fr_sI (fr_sI (fr_sI hf2 _ rfl) _ rfl) _ rfl
      have hN' : NowOK 0 (rdt X n).2 (sI (sI (sI τ 61 10 0) 83 0 0) 83 1 0) := by
        have this : EncAt 64 0 (rdt X n).2 (sI (sI (sI τ 61 10 0) 83 0 0) 83 1 0) := hN.fr (X := fun c _ => c == 61 || c == 83) hl (fr_sI (fr_sI (fr_sI fr_rfl _ rfl) _ rfl) _ rfl) (fun _ _ _ => rfl)
        exact ⟨this.1, this.2⟩
      refine p_many (L := 0) hN' (by omega) ?_
      refine h9 hr _ hN' ?_ ?_ (sI_in _ _ _ _) hf3
      · rw [sI_out _ _ (by omega), sI_out _ _ (by omega), sI_in]
      · rw [sI_out _ _ (by omega), sI_in]
    · unfold sIB
      rw [nI_1, nI_cl (by omega)]
      refine hR (21 - (k + 1)) _ _ (by omega) ⟨k + 1, by omega, rfl, rfl, fr_sI hf2 _ rfl, fun j => ?_, fun j hj' => ?_⟩
      · rw [sI_out _ _ (by omega)]; exact h66 j
      · by_cases e : j = k
        · subst e
          rw [Nat.zero_add, sI_in]; exact h66 j
        · rw [sI_out _ _ (by omega)]; exact hj j (by omega)
def XtC (c i : Nat) : Bool := (decide (3 ≤ c) && decide (c ≤ 22)) || c == 44 || (c == 45 && i == 0)
theorem q_trace {σ : St} {X : Nat → Nat} {n : Nat} {Q : Int32 → St → Prop} (hX : TxtC X n σ) (h9 : (rdt X n).1 = none → ∀ τ, RowOK 3 (rdt X n).2 τ → τ.1 45 0 = 0 → τ.1 44 0 = 0 → τ.1 44 1 = 0 → fr XtC σ τ → Q (nI (rdt X n).2.length) τ) (h3 : ∀ p, (rdt X n).1 = some p → p < 2147483648 → ∀ τ, fr (XR 13) σ τ → Q (-3) τ) (hp : ∀ p, (rdt X n).1 = some p → p < 2147483648) : m_X8_trace σ Q := by
  unfold m_X8_trace
  refine q_tell (by omega) hX (fun σ1 hR1 hf1 => ?_)
  obtain ⟨hV, hl⟩ := rdt_ok X n
  cases hr : (rdt X n).1 with
  | some p => exact ⟨fun z => absurd z (ne9 p (hp p hr)), fun _ => h3 p hr (hp p hr) σ1 hf1⟩
  | none =>
    refine ⟨fun _ => ?_, fun z => absurd rfl z⟩
    refine q_copy (by omega) hR1 hV hl (fun σ2 hR2 hf2 => ?_)
    have g1 : fr XtC σ σ1 := fr_mono hf1 (fun c i q => by
      simp only [XtC, XR, Bool.or_eq_false_iff, Bool.and_eq_false_iff, decide_eq_false_iff_not] at q ⊢; omega)
    have g2 : fr XtC σ1 σ2 := fr_mono hf2 (fun c i q => by
      simp only [XtC, XR, Bool.or_eq_false_iff, Bool.and_eq_false_iff, decide_eq_false_iff_not] at q ⊢; omega)
    have g3 : fr XtC σ (sI σ2 45 0 0) := fr_sI (fr_tr g1 g2) _ rfl
    have hR3 : RowOK 3 (rdt X n).2 (sI σ2 45 0 0) := hR2.fr (X := fun c _ => c == 45) (fr_sI fr_rfl _ rfl) (fun c i a b => by simp; omega)
    unfold sIB
    refine lpE1 (m_X8_trace_L40b Q (fun σ => m_X8_trace_J58 Q σ)) (fun _ => rfl) (fun m τ x => ∃ k, k ≤ 2 ∧ x = nI k ∧ m = 2 - k ∧ fr XtC σ τ ∧ RowOK 3 (rdt X n).2 τ ∧ τ.1 45 0 = 0 ∧ ∀ j, j < k → τ.1 44 j = 0) ?_ (n := 2) ⟨0, by omega, rfl, rfl, g3, hR3, sI_in _ _ _ _, fun j q => by omega⟩
    rintro m τ x Rc ⟨k, hk, rfl, hm, hf, hR, h45, hj⟩ hRc
    unfold m_X8_trace_L40b
    rw [show (2 : Int32) = nI 2 from rfl, nI_le' (by omega) (by omega)]
    refine ⟨fun q => ?_, fun q => ⟨vp_n (by omega) (by omega), ?_⟩⟩
    · have e : k = 2 := by omega
      subst e
      show Q (τ.1 3 0) τ
      rw [hR.1]
      exact h9 hr τ hR h45 (hj 0 (by omega)) (hj 1 (by omega)) hf
    · unfold sIB
      rw [nI_1, nI_cl (by omega), nar0]
      refine hRc (2 - (k + 1)) _ _ (by omega) ⟨k + 1, by omega, rfl, rfl, fr_sI hf _ rfl, hR.fr (X := fun c _ => c == 44) (fr_sI fr_rfl _ rfl) (fun c i a b => by simp; omega), ?_, fun j hj' => ?_⟩
      · rw [sI_out _ _ (by omega)]; exact h45
      · by_cases e : j = k
        · subst e; exact sI_in _ _ _ _
        · rw [sI_out _ _ (by omega)]; exact hj j (by omega)
theorem rdt_small {X : Nat → Nat} {n p : Nat} (hn : n ≤ 64) (hr : (rdt X n).1 = some p) : p < 2147483648 := by
  have : ∀ (f k : Nat) (T : Tr) (p : Nat) (U : Tr), k ≤ n + 2 → rd X n f k T = (some p, U) → p ≤ n + 4 := by
    intro f
    induction f with
    | zero => intro k T p U hk e; unfold rd at e; cases e
    | succ f ih =>
      intro k T p U hk e
      unfold rd at e
      split at e
      · cases e
      split at e
      · injection e with e1 e2; injection e1 with e1; omega
      split at e
      · injection e with e1 e2; injection e1 with e1; omega
      split at e
      · injection e with e1 e2; injection e1 with e1; omega
      split at e
      · injection e with e1 e2; injection e1 with e1; omega
      split at e
      · injection e with e1 e2; injection e1 with e1; omega
      split at e
      · exact ih _ _ _ _ (by omega) e
      · injection e with e1 e2; injection e1 with e1; omega
  unfold rdt at hr
  split at hr
  · injection hr with hr; omega
  · have := this 21 1 [] p (rd X n 21 1 []).2 (by omega) (by rw [← hr])
    omega
theorem k_trace {σ : St} (h : Inv σ) : m_X8_trace σ (fun r σ1 => m_X9_trace σ1 (fun r2 σ2 => r = r2 ∧ Inv σ2)) := by
  obtain ⟨X, n, T, B, nx, hI⟩ := h
  obtain ⟨i1, i2, i3, i4, i5, i6, i7, i8, i9, i10, i11⟩ := id hI
  obtain ⟨hV, hl⟩ := rdt_ok X n
  refine q_trace i1 (fun hr σ1 hR h45 h440 h441 hf1 => ?_) (fun p hr _ σ1 hf1 => ?_) (fun p hr => rdt_small i1.1 hr)
  · have i2' : TxtM X n σ1 := i2.fr hf1 rfl (fun _ => rfl)
    refine p_trace i2' (fun _ σ2 hN h10 h830 h831 hf2 => ⟨rfl, X, n, (rdt X n).2, [], nx, ?_⟩) (fun z => absurd hr z)
    have c44 : σ2.1 44 0 = 0 ∧ σ2.1 44 1 = 0 := ⟨(hf2.1 _ _ rfl).trans h440, (hf2.1 _ _ rfl).trans h441⟩
    have nx2 : σ2.1 61 11 = nI nx := ((hf2.1 _ _ rfl).trans (hf1.1 _ _ rfl)).trans i7.2.2.2.1
    refine ⟨(i1.fr hf1 rfl (fun _ => rfl)).fr hf2 rfl (fun _ => rfl), i2'.fr hf2 rfl (fun _ => rfl), hR.fr hf2 (fun c i a b => ?_), hN, hV, hl, ⟨by simp, i7.2.1, h10, nx2, fun j hj => by simp at hj⟩, ⟨(hf2.1 _ _ rfl).trans h45, fun j hj => by simp at hj⟩, ⟨Or.inl ⟨c44.1, h830⟩, Or.inl ⟨c44.2, h831⟩⟩, (i10.fr hf1 rfl rfl (fun c j a b => ?_) (fun c j a b => ?_)).fr hf2 rfl rfl (fun c j a b => ?_) (fun c j a b => ?_), ?_⟩
    · simp only [Xtr, Bool.or_eq_false_iff, Bool.and_eq_false_iff, beq_eq_false_iff_ne]; omega
    · simp only [XtC, Bool.or_eq_false_iff, Bool.and_eq_false_iff, beq_eq_false_iff_ne, decide_eq_false_iff_not]; omega
    · simp only [XtC, Bool.or_eq_false_iff, Bool.and_eq_false_iff, beq_eq_false_iff_ne, decide_eq_false_iff_not]; omega
    · simp only [Xtr, Bool.or_eq_false_iff, Bool.and_eq_false_iff, beq_eq_false_iff_ne]; omega
    · simp only [Xtr, Bool.or_eq_false_iff, Bool.and_eq_false_iff, beq_eq_false_iff_ne]; omega
    · rw [hf2.2, hf1.2]; exact i11
  · have hI1 := hI.keep (hf1.keep XR13_keep)
    refine p_trace hI1.2.1 (fun z => ?_) (fun _ σ2 hf2 => ⟨rfl, X, n, T, B, nx, hI1.keep (hf2.keep Xrt_keep)⟩)
    rw [hr] at z; cases z
def Xac (c i : Nat) : Bool := c == 62 || c == 63 || c == 64 || c == 69 || (c == 61 && (i == 2 || i == 3 || i == 10 || i == 11))
theorem Xw_ac : ∀ c i, Xac c i = false → Xw c i = false := by
  intro c i h
  simp only [Xac, Xw, Bool.or_eq_false_iff, Bool.and_eq_false_iff, beq_eq_false_iff_ne] at h ⊢; omega
theorem Xka_ac : ∀ c i, Xac c i = false → Xka c i = false := by
  intro c i h
  simp only [Xac, Xka, Bool.or_eq_false_iff, Bool.and_eq_false_iff, beq_eq_false_iff_ne] at h ⊢; omega
theorem Xrg_ac {b : Nat} : ∀ c i, Xac c i = false → Xrg 64 b c i = false := by
  intro c i h
  simp only [Xac, Bool.or_eq_false_iff, Bool.and_eq_false_iff, beq_eq_false_iff_ne] at h
  exact Xrg_c (by omega)
theorem p_takeTrial {σ : St} {T U : Tr} {B : List Tr} {nx : Nat} {Q : Int32 → St → Prop} (hN0 : NowOK 0 T σ) (hl : T.length ≤ 20) (hN1 : NowOK 1 U σ) (hB : Bnd U) (hA : ActM B nx σ) (h1 : Val U → ∀ τ, NowOK 0 U τ → ActM (pushA B T) ((nx + 1) % 14) τ → fr Xac σ τ → Q 1 τ) (h0 : ¬ Val U → ∀ τ, fr Xw σ τ → Q 0 τ) : m_X9_takeTrial σ Q := by
  unfold m_X9_takeTrial
  refine p_isTrace (L := 1) hN1 hB (by omega) (fun hv σ1 _ hf1 => ⟨fun _ => ?_, fun z => absurd z (by decide)⟩) (fun hv σ1 hf1 => ⟨fun z => absurd rfl z, fun _ => h0 hv σ1 hf1⟩)
  refine p_keepAct (hN0.fr hf1 (fun _ => rfl)) hl (hA.fr hf1 rfl rfl (fun _ => rfl)) (fun σ2 hA2 hf2 => ?_)
  refine p_lay (L1 := 0) (L2 := 1) (by omega) (by omega) (by omega) (fun σ3 hc hf3 => ?_)
  have hN1' : EncAt 64 (21 * 1) U σ2 := by
    have := (hN1.fr hf1 (fun _ => rfl)).fr hf2 (fun _ => rfl)
    exact ⟨this.1, this.2⟩
  have hN0' : EncAt 64 (21 * 0) U σ3 := hN1'.copy hB.1 hc
  refine h1 hv σ3 ⟨hN0'.1, hN0'.2⟩ (hA2.fr hf3 (Xrg_c (by omega)) (Xrg_c (by omega)) (fun _ => Xrg_c (by omega))) (fr_tr (fr_tr (fr_mono hf1 Xw_ac) (fr_mono hf2 Xka_ac)) (fr_mono hf3 Xrg_ac))
theorem Xac_keepN : True := trivial
theorem p_drop {σ : St} {T : Tr} {B : List Tr} {nx : Nat} {a : Int32} {Q : Int32 → St → Prop} (hN0 : NowOK 0 T σ) (hV : Val T) (hl : T.length ≤ 20) (hA : ActM B nx σ) (h1 : ∀ k, k < T.length → a = nI k → Val (T.eraseIdx k) → ∀ τ, NowOK 0 (T.eraseIdx k) τ → ActM (pushA B T) ((nx + 1) % 14) τ → fr Xac σ τ → Q (nI (T.length - 1)) τ) (h0 : ∀ k, k < T.length → a = nI k → ¬ Val (T.eraseIdx k) → ∀ τ, Keep σ τ → Q (-3) τ) (hu : (∀ k, k < T.length → a ≠ nI k) → Q (-1) σ) : m_X9_drop σ a Q := by
  unfold m_X9_drop
  refine p_isStep (L := 0) hN0 (by omega) hl (fun k hk e => ?_) (fun hno => ⟨fun z => absurd rfl z, fun _ => hu hno⟩)
  subst e
  refine ⟨fun _ => ?_, fun z => absurd z (by decide)⟩
  refine p_lay (L1 := 1) (L2 := 0) (by omega) (by omega) (by omega) (fun σ1 hc hf1 => ?_)
  have hE0 : EncAt 64 (21 * 0) T σ := ⟨hN0.1, hN0.2⟩
  have hE1 : EncAt 64 (21 * 1) T σ1 := hE0.copy hl hc
  refine p_dropOn (L := 1) ⟨hE1.1, hE1.2⟩ (by omega) hl hk (fun σ2 hN2 hf2 => ?_)
  have z0 : EncAt 64 (21 * 0) T σ2 := (hE0.fr hl hf1 (fun i _ b => Xrg_out (by omega))).fr hl hf2 (fun i _ b => Xrg_out (by omega))
  have hA2 : ActM B nx σ2 := (hA.fr hf1 (Xrg_c (by omega)) (Xrg_c (by omega)) (fun _ => Xrg_c (by omega))).fr hf2 (Xrg_c (by omega)) (Xrg_c (by omega)) (fun _ => Xrg_c (by omega))
  refine p_takeTrial ⟨z0.1, z0.2⟩ hl hN2 (Bnd_erase (hV.bnd hl) k) hA2 (fun hv σ3 hN3 hA3 hf3 => ⟨fun z => absurd z (by decide), fun _ => ?_⟩) (fun hv σ3 hf3 => ⟨fun _ => ?_, fun z => absurd rfl z⟩)
  · refine p_many (L := 0) hN3 (by omega) ?_
    rw [erase_len T hk]
    exact h1 k hk rfl hv σ3 hN3 hA3 (fr_tr (fr_tr (fr_mono hf1 Xrg_ac) (fr_mono hf2 Xrg_ac)) hf3)
  · exact h0 k hk rfl hv σ3 (((hf1.keep Xrg1_keep).tr (hf2.keep Xrg1_keep)).tr (hf3.keep Xw_keep))
theorem p_swap {σ : St} {T : Tr} {B : List Tr} {nx : Nat} {a : Int32} {Q : Int32 → St → Prop} (hN0 : NowOK 0 T σ) (hV : Val T) (hl : T.length ≤ 20) (hA : ActM B nx σ) (h1 : ∀ k, k + 1 < T.length → a = nI k → Val (swp T k) → ∀ τ, NowOK 0 (swp T k) τ → ActM (pushA B T) ((nx + 1) % 14) τ → fr Xac σ τ → Q (nI (th T k)) τ) (h0 : ∀ k, k + 1 < T.length → a = nI k → ¬ Val (swp T k) → ∀ τ, Keep σ τ → Q (-3) τ) (hu : (∀ k, k + 1 < T.length → a ≠ nI k) → Q (-1) σ) : m_X9_swap σ a Q := by
  unfold m_X9_swap
  have hB := hV.bnd hl
  refine p_isStep (L := 0) hN0 (by omega) hl (fun k hk e => ?_) (fun hno => ⟨fun _ => hu (fun k hk => hno k (by omega)), fun z => absurd rfl z⟩)
  subst e
  refine ⟨fun z => absurd z (by decide), fun _ => ?_⟩
  refine p_many (L := 0) hN0 (by omega) ?_
  have e1 : nI T.length - 1 = nI (T.length - 1) := by rw [show (1 : Int32) = nI 1 from rfl, pk_sub (by omega)]
  rw [e1, nI_eq' (by omega) (by omega)]
  refine ⟨fun q => ?_, fun q => hu (fun k' hk' e => ?_)⟩
  rotate_left
  · rw [nI_eq' (by omega) (by omega)] at e; omega
  have hk2 : k + 1 < T.length := by omega
  refine p_threadAt (L := 0) hN0 hB (by omega) hk ?_
  refine p_lay (L1 := 1) (L2 := 0) (by omega) (by omega) (by omega) (fun σ1 hc hf1 => ?_)
  have hE0 : EncAt 64 (21 * 0) T σ := ⟨hN0.1, hN0.2⟩
  have hE1 : EncAt 64 (21 * 1) T σ1 := hE0.copy hl hc
  refine p_swapOn (L := 1) ⟨hE1.1, hE1.2⟩ (by omega) hl hk2 (fun σ2 hN2 hf2 => ?_)
  have z0 : EncAt 64 (21 * 0) T σ2 := (hE0.fr hl hf1 (fun i _ b => Xrg_out (by omega))).fr hl hf2 (fun i _ b => Xrg_out (by omega))
  have hA2 : ActM B nx σ2 := (hA.fr hf1 (Xrg_c (by omega)) (Xrg_c (by omega)) (fun _ => Xrg_c (by omega))).fr hf2 (Xrg_c (by omega)) (Xrg_c (by omega)) (fun _ => Xrg_c (by omega))
  refine p_takeTrial ⟨z0.1, z0.2⟩ hl hN2 (Bnd_swp hB hk2) hA2 (fun hv σ3 hN3 hA3 hf3 => ⟨fun z => absurd z (by decide), fun _ => ?_⟩) (fun hv σ3 hf3 => ⟨fun _ => ?_, fun z => absurd rfl z⟩)
  · exact h1 k hk2 rfl hv σ3 hN3 hA3 (fr_tr (fr_tr (fr_mono hf1 Xrg_ac) (fr_mono hf2 Xrg_ac)) hf3)
  · exact h0 k hk2 rfl hv σ3 (((hf1.keep Xrg1_keep).tr (hf2.keep Xrg1_keep)).tr (hf3.keep Xw_keep))
