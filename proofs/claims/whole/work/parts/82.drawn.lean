/-! ===== steps dropped by a seed ===== -/
def sdN (s : Int64) : Int64 := s * 6364136223846793005 + 1442695040888963407
def sd (s : Int64) : Nat → Int64
  | 0 => s
  | k + 1 => sdN (sd s k)
def drA (s : Int64) (L : Nat) : Int32 := ((s.toUInt64 >>> ((33 : Int32).toInt64.toUInt64 &&& Int64.toUInt64 63)).toInt64 - (s.toUInt64 >>> ((33 : Int32).toInt64.toUInt64 &&& Int64.toUInt64 63)).toInt64 / lN L * lN L).toInt32
def drO (T : Tr) (a : Int32) : Bool := decide (a = nI a.toNatClampNeg) && (decide (a.toNatClampNeg < T.length) && vT (T.eraseIdx a.toNatClampNeg))
def drS (T : Tr) (a : Int32) : Tr := if drO T a then T.eraseIdx a.toNatClampNeg else T
def dT (T : Tr) (s : Int64) : Nat → Tr
  | 0 => T
  | k + 1 => drS (dT T s k) (drA (sd s (k + 1)) (max 1 (dT T s k).length))
theorem drO_y {T : Tr} {k : Nat} (hl : T.length ≤ 20) (hk : k < T.length) (hv : Val (T.eraseIdx k)) : drO T (nI k) = true ∧ drS T (nI k) = T.eraseIdx k := by
  have e : drO T (nI k) = true := by
    unfold drO
    rw [nI_cl (by omega), decide_eq_true rfl, decide_eq_true hk, (vT_iff _).mpr hv]; rfl
  refine ⟨e, ?_⟩
  rw [drS, if_pos e, nI_cl (by omega)]
theorem drO_n {T : Tr} {a : Int32} (h : ∀ k, k < T.length → a = nI k → ¬ Val (T.eraseIdx k)) : drO T a = false ∧ drS T a = T := by
  have e : drO T a = false := by
    cases q : drO T a
    · rfl
    · rw [drO, Bool.and_eq_true, Bool.and_eq_true, decide_eq_true_eq, decide_eq_true_eq, vT_iff] at q
      exact absurd q.2.2 (h _ q.2.1 q.1)
  exact ⟨e, by rw [drS, e]; rfl⟩
theorem drS_ok {T : Tr} {a : Int32} (hV : Val T) (hl : T.length ≤ 20) : Val (drS T a) ∧ (drS T a).length ≤ 20 := by
  cases e : drO T a
  · rw [drS, e]; exact ⟨hV, hl⟩
  · rw [drS, e]
    rw [drO, Bool.and_eq_true, Bool.and_eq_true, decide_eq_true_eq, decide_eq_true_eq, vT_iff] at e
    exact ⟨e.2.2, by rw [if_pos rfl, erase_len T e.2.1]; omega⟩
theorem dT_ok {T : Tr} (hV : Val T) (hl : T.length ≤ 20) (s : Int64) : ∀ k, Val (dT T s k) ∧ (dT T s k).length ≤ 20
  | 0 => ⟨hV, hl⟩
  | k + 1 => by have := dT_ok hV hl s k; exact drS_ok this.1 this.2
def flt (T : Tr) : Int32 := nI (fcn T 15) + fsb (RC T)
def dsum (T : Tr) (s : Int64) : Nat → Int32
  | 0 => 0
  | k + 1 => dsum T s k + flt (dT T s (k + 1))
theorem max_l {n : Nat} (h : n ≤ 20) : (if (1 : Int32) < nI n then nI n else 1).toInt64 = lN (max 1 n) := by
  have e : ((1 : Int32) < nI n) ↔ 1 < n := by rw [show (1 : Int32) = nI 1 from rfl, nI_lt' (by omega) (by omega)]
  by_cases q : 1 < n
  · rw [if_pos (e.mpr q), nI_l (by omega), Nat.max_eq_right (by omega)]
  · rw [if_neg (fun z => q (e.mp z)), Nat.max_eq_left (by omega)]; decide
theorem lN_ne0 {n : Nat} (h : n ≤ 20) : ¬ lN (max 1 n) = 0 := by
  rw [show (0 : Int64) = lN 0 from rfl, pk_lEQ (by omega) (by omega)]; omega
theorem q_faults {T : Tr} {σ : St} {Q : Int32 → St → Prop} (hR : RowOK 13 T σ) (hV : Val T) (hl : T.length ≤ 20) (h : ∀ τ, RowOK 13 T τ → fr XfC σ τ → Q (flt T) τ) : m_X8_faultsOfTrial σ Q := by
  unfold m_X8_faultsOfTrial
  refine q_find (by omega) hR hV hl (fun τ hs hf => ?_)
  have hRt : RowOK 13 T τ := hR.fr hf (fun c i h1 h2 => by
    simp only [XfC, XeC, XgC, Bool.or_eq_false_iff, Bool.and_eq_false_iff, beq_eq_false_iff_ne]; omega)
  exact q_flaggedCount hRt hV hl (q_feasible hs (h τ hRt hf))
def KeepI (σ τ : St) : Prop := ∀ c i, PF c i = true → τ.1 c i = σ.1 c i
theorem InvP.keepI {Y : Nat → Nat} {n : Nat} {T : Tr} {B : List Tr} {nx : Nat} {σ τ : St} (h : InvP Y n T B nx σ) (hk : KeepI σ τ) (h2 : τ.2 0 9 = τ.2 61 36) : InvP Y n T B nx τ := by
  have := h.keep (τ := (τ.1, σ.2)) ⟨hk, rfl, rfl⟩
  obtain ⟨i1, i2, i3, i4, i5, i6, i7, i8, i9, i10, i11⟩ := this
  exact ⟨i1, i2, i3, i4, i5, i6, i7, i8, i9, i10, h2⟩
theorem k_drawn {σ : St} (h : Inv σ) (a : Int32) : m_X8_drawn σ a (fun r σ1 => m_X9_drawn σ1 a (fun r2 σ2 => r = r2 ∧ Inv σ2)) := by
  obtain ⟨X, n0, T, B, nx, hI⟩ := h
  have hI0 : Inv σ := ⟨X, n0, T, B, nx, hI⟩
  obtain ⟨i1, i2, i3, i4, i5, i6, i7, i8, i9, i10, i11⟩ := id hI
  have hB := i5.bnd i6
  have e1 : (1 : Int64) = (nI 1).toInt64 := by decide
  have e20 : (20 : Int64) = (nI 20).toInt64 := by decide
  unfold m_X8_drawn
  have noA : ¬ ((1 : Int64) ≤ a.toInt64 ∧ a.toInt64 ≤ (nI 20).toInt64) → m_X9_drawn σ a (fun r2 σ2 => -2 = r2 ∧ Inv σ2) := by
    intro hno
    unfold m_X9_drawn
    rw [e20]
    exact p_in (fun h1 h2 => absurd ⟨h1, h2⟩ hno) (fun _ => ⟨fun z => absurd rfl z, fun _ => ⟨rfl, hI0⟩⟩)
  rcases arg14 a (M := 20) (by omega) (by omega) with ⟨n, hn1, hn4, rfl⟩ | ⟨hb1, hb2⟩
  rotate_left
  · refine ⟨fun _ => noA hb2, fun q => ⟨fun q2 => ?_, fun _ => noA hb2⟩⟩
    rcases hb1 with w | w
    · exact absurd w q
    · exact absurd q2 w.2
  have in20 : (1 : Int64) ≤ (nI n).toInt64 ∧ (nI n).toInt64 ≤ (nI 20).toInt64 := by
    rw [e1, i64_le, i64_le, nI_le' (by omega) (by omega), nI_le' (by omega) (by omega)]
    exact ⟨hn1, hn4⟩
  refine ⟨fun z => ?_, fun _ => ⟨fun _ => ?_, fun z => absurd (nI_le hn4 (by omega)) z⟩⟩
  · rw [show (1 : Int32) = nI 1 from rfl, nI_lt' (by omega) (by omega)] at z; omega
  -- the reference
  have M : ∀ (τ : St) (r : Int32), KeepI σ τ → τ.2 0 9 = sd (σ.2 61 36) n → τ.2 61 36 = σ.2 61 36 → r = dsum T (σ.2 61 36) n → m_X9_drawn τ (nI n) (fun r2 σ2 => r = r2 ∧ Inv σ2) := by
    intro τ r hk h09 h36 hr
    have hNt : NowOK 0 T τ := by
      have := (hI.keep (τ := (τ.1, σ.2)) ⟨hk, rfl, rfl⟩).2.2.2.1
      exact this
    unfold m_X9_drawn
    rw [e20]
    refine p_in (fun _ _ => ⟨fun _ => ?_, fun z => absurd z (by decide)⟩) (fun z => absurd in20 z)
    refine p_lay (L1 := 1) (L2 := 0) (by omega) (by omega) (by omega) (fun σ1 hc hf1 => ?_)
    have hE0 : EncAt 64 (21 * 0) T τ := ⟨hNt.1, hNt.2⟩
    have hE1 : EncAt 64 (21 * 1) T σ1 := hE0.copy i6 hc
    have kI1 : KeepI σ σ1 := fun c i w => (hf1.1 c i (Xrg1_keep c i w)).trans (hk c i w)
    refine lpE3 (m_X9_drawn_L28b (nI n) (fun r2 σ2 => r = r2 ∧ Inv σ2) (fun σ x2 x3 => m_X9_drawn_J123 (nI n) (fun r2 σ2 => r = r2 ∧ Inv σ2) σ x2 x3)) (fun _ => rfl) (fun m υ x y w => ∃ k d, k ≤ n ∧ d ≤ k ∧ w = nI k ∧ m = n - k ∧ x = dsum T (σ.2 61 36) k ∧ y = nI d ∧ NowOK 1 (dT T (σ.2 61 36) k) υ ∧ υ.2 61 36 = sd (σ.2 61 36) k ∧ υ.2 0 9 = sd (σ.2 61 36) n ∧ KeepI σ υ) ?_ (n := n) ⟨0, 0, by omega, by omega, rfl, rfl, rfl, rfl, ⟨hE1.1, hE1.2⟩, by rw [hf1.2]; exact h36, by rw [hf1.2]; exact h09, kI1⟩
    rintro m υ x y w Rc ⟨k, d, hkn, hdk, rfl, hm, rfl, rfl, hNu, s36, s09, kIu⟩ hRc
    obtain ⟨hVU, hlU⟩ := dT_ok i5 i6 (σ.2 61 36) k
    unfold m_X9_drawn_L28b
    rw [nI_le' (by omega) (by omega)]
    refine ⟨fun q => ?_, fun q => ?_⟩
    · have e : k = n := by omega
      subst e
      unfold m_X9_drawn_J123
      refine ⟨fun _ => ⟨hr, X, n0, T, B, nx, hI.keepI kIu (s09.trans s36.symm)⟩, fun z => absurd (nI_pos' (by omega)) z⟩
    unfold sLB
    rw [s36]
    have sE : sd (σ.2 61 36) k * 6364136223846793005 + 1442695040888963407 = sd (σ.2 61 36) (k + 1) := rfl
    rw [sE]
    have hNv : NowOK 1 (dT T (σ.2 61 36) k) (sL υ 61 36 (sd (σ.2 61 36) (k + 1))) := hNu
    refine p_many (L := 1) hNv (by omega) ?_
    have v36 : (sL υ 61 36 (sd (σ.2 61 36) (k + 1))).2 61 36 = sd (σ.2 61 36) (k + 1) := sL_in _ _ _ _
    have v09 : (sL υ 61 36 (sd (σ.2 61 36) (k + 1))).2 0 9 = sd (σ.2 61 36) n := by rw [sL_out _ _ (by omega)]; exact s09
    have kIv : KeepI σ (sL υ 61 36 (sd (σ.2 61 36) (k + 1))) := kIu
    rw [v36]
    -- with what it is divided by
    have J : ∀ t1 : Int32, t1.toInt64 = lN (max 1 (dT T (σ.2 61 36) k).length) → m_X9_drawn_J74 (nI n) (fun r2 σ2 => r = r2 ∧ Inv σ2) (fun σ x2 x3 => m_X9_drawn_J123 (nI n) (fun r2 σ2 => r = r2 ∧ Inv σ2) σ x2 x3) Rc (sL υ 61 36 (sd (σ.2 61 36) (k + 1))) (dsum T (σ.2 61 36) k) (nI d) (nI k) ((sd (σ.2 61 36) (k + 1)).toUInt64 >>> ((33 : Int32).toInt64.toUInt64 &&& Int64.toUInt64 63)).toInt64 t1 := by
      intro t1 ht1
      unfold m_X9_drawn_J74
      rw [ht1]
      refine ⟨lN_ne0 hlU, bI_i ?_⟩
      have fin : ∀ (ω : St) (b : Bool), NowOK 1 (dT T (σ.2 61 36) (k + 1)) ω → fr Xtt (sL υ 61 36 (sd (σ.2 61 36) (k + 1))) ω → m_X9_drawn_J96 (nI n) (fun r2 σ2 => r = r2 ∧ Inv σ2) (fun σ x2 x3 => m_X9_drawn_J123 (nI n) (fun r2 σ2 => r = r2 ∧ Inv σ2) σ x2 x3) Rc ω (dsum T (σ.2 61 36) k) (nI k) (nI d) (nI (if b then 1 else 0)) := by
        intro ω b hNw hfw
        obtain ⟨hVW, hlW⟩ := dT_ok i5 i6 (σ.2 61 36) (k + 1)
        have kIw : KeepI σ ω := fun c i w => (hfw.1 c i (Xtt_keep c i w)).trans (kIv c i w)
        unfold m_X9_drawn_J96
        refine bI_i ?_
        refine p_feasibleOn (L := 1) hNw hVW hlW (by omega) (fun α hNa hHa hfa => ?_)
        have kIa : KeepI σ α := fun c i w => (hfa.1 c i (XfM_keep c i w)).trans (kIw c i w)
        have a36 : α.2 61 36 = sd (σ.2 61 36) (k + 1) := by rw [hfa.2 61 36 (by omega), hfw.2]; exact v36
        have a09 : α.2 0 9 = sd (σ.2 61 36) n := by rw [hfa.2 0 9 (by omega), hfw.2]; exact v09
        refine p_flaggedOn (L := 1) hNa (hVW.bnd hlW) hHa (by omega) (fun β hfb => p_ones (bI_i ?_))
        have sumE : dsum T (σ.2 61 36) k + (fsb (RC (dT T (σ.2 61 36) (k + 1))) + nI (cntb (fbt (dT T (σ.2 61 36) (k + 1)) 15 4) 20)) = dsum T (σ.2 61 36) (k + 1) := by
          rw [Int32.add_comm (fsb _)]; rfl
        rw [sumE, nI_add, nI_1]
        refine hRc (n - (k + 1)) _ _ _ _ (by omega) ⟨k + 1, d + (if b then 1 else 0), by omega, by split <;> omega, rfl, rfl, rfl, rfl, hNa.fr hfb (fun _ => rfl), by rw [hfb.2]; exact a36, by rw [hfb.2]; exact a09, fun c i w => (hfb.1 c i (XW_keep c i w)).trans (kIa c i w)⟩
      show m_X9_tryThing _ 1 (drA (sd (σ.2 61 36) (k + 1)) (max 1 (dT T (σ.2 61 36) k).length)) 0 _
      have dE : dT T (σ.2 61 36) (k + 1) = drS (dT T (σ.2 61 36) k) (drA (sd (σ.2 61 36) (k + 1)) (max 1 (dT T (σ.2 61 36) k).length)) := rfl
      refine p_try1 hNv hVU hlU (fun j hj e hv ω hNw hf => ⟨fun z => absurd z (by decide), fun _ => fin ω true ?_ hf⟩) (fun hno ω hNw hf => ⟨fun _ => fin ω false ?_ hf, fun z => absurd rfl z⟩)
      · rw [dE, e, (drO_y hlU hj hv).2]; exact hNw
      · rw [dE, (drO_n hno).2]; exact hNw
    rw [nI_eq0 (by omega)]
    refine ⟨fun z => p_many (L := 1) hNv (by omega) (J _ ?_), fun z => J 1 ?_⟩
    · rw [nI_l (by omega), Nat.max_eq_right (by omega)]
    · rw [z]; decide
  refine q_copy (b := 13) (b2 := 3) (by omega) i3 i5 i6 (fun σ1 hR1 hf1 => ?_)
  refine q_faults hR1 i5 i6 (fun σ2 hR2 hf2 => ?_)
  have kI2 : KeepI σ σ2 := fun c i w => (hf2.1 c i (XfC_keep c i w)).trans (hf1.1 c i (XR13_keep c i w))
  refine lpE3 (m_X8_drawn_L35b (nI n) (fun r σ1 => m_X9_drawn σ1 (nI n) (fun r2 σ2 => r = r2 ∧ Inv σ2)) (fun σ x3 => m_X8_drawn_J107 (nI n) (fun r σ1 => m_X9_drawn σ1 (nI n) (fun r2 σ2 => r = r2 ∧ Inv σ2)) σ x3)) (fun _ => rfl) (fun m υ x y w => ∃ k, k ≤ n ∧ w = nI k ∧ m = n - k ∧ x = flt (dT T (σ.2 61 36) k) ∧ y = dsum T (σ.2 61 36) k ∧ RowOK 13 (dT T (σ.2 61 36) k) υ ∧ υ.2 0 9 = sd (σ.2 61 36) k ∧ υ.2 61 36 = σ.2 61 36 ∧ KeepI σ υ) ?_ (n := n) ⟨0, by omega, rfl, rfl, rfl, rfl, hR2, by rw [hf2.2, hf1.2]; exact i11, by rw [hf2.2, hf1.2], kI2⟩
  rintro m υ x y w Rc ⟨k, hkn, rfl, hm, rfl, rfl, hRu, s09, s36, kIu⟩ hRc
  obtain ⟨hVU, hlU⟩ := dT_ok i5 i6 (σ.2 61 36) k
  unfold m_X8_drawn_L35b
  rw [nI_le' (by omega) (by omega)]
  refine ⟨fun q => ?_, fun q => ?_⟩
  · have e : k = n := by omega
    subst e
    exact M υ _ kIu s09 s36 rfl
  unfold sLB
  dsimp only
  rw [s09]
  have sE : sd (σ.2 61 36) k * 6364136223846793005 + 1442695040888963407 = sd (σ.2 61 36) (k + 1) := rfl
  rw [sE]
  have v09 : (sL υ 0 9 (sd (σ.2 61 36) (k + 1))).2 0 9 = sd (σ.2 61 36) (k + 1) := sL_in _ _ _ _
  have v36 : (sL υ 0 9 (sd (σ.2 61 36) (k + 1))).2 61 36 = σ.2 61 36 := by rw [sL_out _ _ (by omega)]; exact s36
  have hRv : RowOK 13 (dT T (σ.2 61 36) k) (sL υ 0 9 (sd (σ.2 61 36) (k + 1))) := hRu
  have kIv : KeepI σ (sL υ 0 9 (sd (σ.2 61 36) (k + 1))) := kIu
  rw [v09, hRv.1, max_l hlU]
  refine ⟨lN_ne0 hlU, bI_i ?_⟩
  show m_X4_takeOut 13 _ (drA (sd (σ.2 61 36) (k + 1)) (max 1 (dT T (σ.2 61 36) k).length)) _
  have dE : dT T (σ.2 61 36) (k + 1) = drS (dT T (σ.2 61 36) k) (drA (sd (σ.2 61 36) (k + 1)) (max 1 (dT T (σ.2 61 36) k).length)) := rfl
  have uE : dsum T (σ.2 61 36) (k + 1) = dsum T (σ.2 61 36) k + flt (dT T (σ.2 61 36) (k + 1)) := rfl
  refine q_takeOut hRv hVU hlU (fun j hj e hv ω hRw hf => ⟨fun z => absurd z (by decide), fun _ => ?_⟩) (fun hno ω hRw hf => ⟨fun _ => bI_i ?_, fun z => absurd rfl z⟩)
  · rw [e, (drO_y hlU hj hv).2] at dE
    rw [← dE] at hRw
    obtain ⟨hVW, hlW⟩ := dT_ok i5 i6 (σ.2 61 36) (k + 1)
    refine q_faults hRw hVW hlW (fun α hRa hfa => bI_i ?_)
    rw [nI_1]
    refine hRc (n - (k + 1)) _ _ _ _ (by omega) ⟨k + 1, by omega, rfl, rfl, rfl, uE.symm, hRa, by rw [hfa.2, hf.2]; exact v09, by rw [hfa.2, hf.2]; exact v36, fun c i w => (hfa.1 c i (XfC_keep c i w)).trans ((hf.1 c i (XR13_keep c i w)).trans (kIv c i w))⟩
  · rw [(drO_n hno).2] at dE
    rw [nI_1]
    refine hRc (n - (k + 1)) _ _ _ _ (by omega) ⟨k + 1, by omega, rfl, rfl, by rw [dE], by rw [uE, dE], by rw [dE]; exact hRw, by rw [hf.2]; exact v09, by rw [hf.2]; exact v36, fun c i w => (hf.1 c i (XR13_keep c i w)).trans (kIv c i w)⟩
