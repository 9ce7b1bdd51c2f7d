/-! ===== undo, seen, the seed, slots ===== -/
theorem p_undo {σ : St} {B : List Tr} {U : Tr} {nx : Nat} {Q : Int32 → St → Prop} (hA : ActM (B ++ [U]) nx σ) (h : ∀ τ, NowOK 0 U τ → ActM B ((nx + 13) % 14) τ → fr Xac σ τ → Q (nI B.length) τ) : m_X9_undo σ Q := by
  obtain ⟨hB, hnx, ha, hx, hE⟩ := hA
  have hlen : (B ++ [U]).length = B.length + 1 := by simp
  rw [hlen] at hB ha
  have hU := hE B.length (by rw [hlen]; omega)
  have eU : (B ++ [U]).getD B.length [] = U := by simp [List.getD_eq_getElem?_getD]
  rw [eU, hlen, show (nx + 14 - (B.length + 1) + B.length) % 14 = (nx + 13) % 14 by congr 1; omega] at hU
  have hm : (nx + 13) % 14 < 14 := Nat.mod_lt _ (by omega)
  unfold m_X9_undo
  rw [ha]
  refine ⟨fun _ => ?_, fun z => ?_⟩
  rotate_left
  · rw [show (0 : Int32) = nI 0 from rfl, nI_eq' (by omega) (by omega)] at z; omega
  unfold sIB
  dsimp only
  have e1 : nI (B.length + 1) - 1 = nI B.length := by rw [show (1 : Int32) = nI 1 from rfl, pk_sub (by omega)]; congr 1
  have e2 : (nI nx + 13) - (nI nx + 13) / 14 * 14 = nI ((nx + 13) % 14) := by
    rw [show (13 : Int32) = nI 13 from rfl, nI_add, show (14 : Int32) = nI 14 from rfl, pk_rem (by omega) (by omega) (by omega)]
  rw [e1, sI_out (a := 61) (j := 11) _ _ (by omega), hx, e2]
  refine lpE1 (m_X9_undo_L36b Q (fun σ => m_X9_undo_J68 Q σ)) (fun _ => rfl) (fun m τ x => ∃ k, k ≤ 21 ∧ x = nI k ∧ m = 21 - k ∧ fr Xac σ τ ∧ (∀ j, τ.1 69 j = σ.1 69 j) ∧ τ.1 61 10 = nI B.length ∧ τ.1 61 11 = nI ((nx + 13) % 14) ∧ ∀ j, j < k → τ.1 64 (0 + j) = σ.1 69 (21 * ((nx + 13) % 14) + j)) ?_ (n := 21) ⟨0, by omega, rfl, rfl, fr_sI (fr_sI fr_rfl _ rfl) _ rfl, fun j => ?_, ?_, sI_in _ _ _ _, fun j q => by omega⟩
  · rintro m τ x Rc ⟨k, hk, rfl, hmm, hf, h69, h10, h11, hj⟩ hR
    unfold m_X9_undo_L36b
    rw [h11, show (21 : Int32) = nI 21 from rfl, nI_le' (by omega) (by omega), pk_mul, nI_add, nI_cl (by omega), nI_cl (by omega)]
    refine ⟨fun q => ?_, fun q => ⟨vp_n (by omega) (by omega), vp_n (by omega) (by omega), ?_⟩⟩
    · have e : k = 21 := by omega
      subst e
      show Q (τ.1 61 10) τ
      rw [h10]
      have hN : EncAt 64 0 U τ := hU.1.copy hU.2 hj
      refine h τ ⟨hN.1, hN.2⟩ ⟨by omega, hm, h10, h11, fun j hj' => ?_⟩ hf
      have hEj := hE j (by rw [hlen]; omega)
      rw [getD_app_lt _ _ _ hj', hlen] at hEj
      rw [show ((nx + 13) % 14 + 14 - B.length + j) % 14 = (nx + 14 - (B.length + 1) + j) % 14 by omega]
      refine ⟨⟨(h69 _).trans hEj.1.1, fun k hk => (h69 _).trans (hEj.1.2 k hk)⟩, hEj.2⟩
    · unfold sIB
      rw [nI_1]
      refine hR (21 - (k + 1)) _ _ (by omega) ⟨k + 1, by omega, rfl, rfl, fr_sI hf _ rfl, fun j => ?_, ?_, ?_, fun j hj' => ?_⟩
      · rw [sI_out _ _ (by omega)]; exact h69 j
      · rw [sI_out _ _ (by omega)]; exact h10
      · rw [sI_out _ _ (by omega)]; exact h11
      · by_cases e : j = k
        · subst e
          rw [Nat.zero_add, sI_in]; exact h69 _
        · rw [sI_out _ _ (by omega)]; exact hj j (by omega)
  · rw [sI_out _ _ (by omega), sI_out _ _ (by omega)]
  · rw [sI_out _ _ (by omega), sI_in]
theorem list_last {B : List Tr} (h : B.length ≠ 0) : ∃ C U, B = C ++ [U] := by
  refine ⟨B.dropLast, B.getLast (fun e => h (by rw [e]; rfl)), ?_⟩
  exact (List.dropLast_concat_getLast _).symm
theorem k_undo {σ : St} (h : Inv σ) : m_X8_undo σ (fun r σ1 => m_X9_undo σ1 (fun r2 σ2 => r = r2 ∧ Inv σ2)) := by
  obtain ⟨X, n, T, B, nx, hI⟩ := h
  obtain ⟨i1, i2, i3, i4, i5, i6, i7, i8, i9, i10, i11⟩ := id hI
  have hB := i7.1
  unfold m_X8_undo
  rw [i8.1, show (0 : Int32) = nI 0 from rfl, nI_eq' (by omega) (by omega)]
  refine ⟨fun q => ?_, fun q => ?_⟩
  rotate_left
  · unfold m_X9_undo
    dsimp only
    rw [i7.2.2.1, show (0 : Int32) = nI 0 from rfl, nI_eq' (by omega) (by omega)]
    exact ⟨fun z => absurd q z, fun _ => ⟨rfl, X, n, T, B, nx, hI⟩⟩
  obtain ⟨C, U, rfl⟩ := list_last q
  have hlen : (C ++ [U]).length = C.length + 1 := by simp
  have eU : (C ++ [U]).getD C.length [] = U := by simp [List.getD_eq_getElem?_getD]
  have eN : nxT (C ++ [U]) T C.length = T := by
    unfold nxT
    rw [show C.length + 1 = (C ++ [U]).length from hlen.symm]
    simp [List.getD_eq_getElem?_getD]
  obtain ⟨hUV, hUl, p, hp1, hp2⟩ := i8.2 C.length (by rw [hlen]; omega)
  rw [eU, eN] at hp2
  rw [eU] at hUV hUl
  rw [hlen] at hB
  have fin : ∀ σ1, RowOK 3 U σ1 → σ1.1 45 0 = nI C.length → fr Xd σ σ1 → (∀ j, σ1.1 46 j = σ.1 46 j ∧ σ1.1 47 j = σ.1 47 j) → m_X9_undo σ1 (fun r2 σ2 => σ1.1 45 0 = r2 ∧ Inv σ2) := by
    intro σ1 hR1 h45 hf1 h467
    refine p_undo (i7.fr hf1 rfl rfl (fun _ => rfl)) (fun σ2 hN2 hA2 hf2 => ⟨h45, X, n, U, C, (nx + 13) % 14, ?_⟩)
    have yn : ∀ c i, ¬ ((3 ≤ c ∧ c ≤ 12) ∨ (c = 45 ∧ i = 0) ∨ c = 46 ∨ c = 47) → Xd c i = false := fun c i q => by
      cases h : Xd c i
      · rfl
      · exact absurd (Xd_ok c i h) q
    have hx : ∀ c i, ¬ (c = 62 ∨ c = 63 ∨ c = 64 ∨ c = 69 ∨ c = 61) → Xac c i = false := fun c i q => by
      simp only [Xac, Bool.or_eq_false_iff, Bool.and_eq_false_iff, beq_eq_false_iff_ne]; omega
    refine ⟨(i1.fr hf1 rfl (fun _ => rfl)).fr hf2 rfl (fun _ => rfl), (i2.fr hf1 rfl (fun _ => rfl)).fr hf2 rfl (fun _ => rfl), hR1.fr hf2 (fun c i a b => hx c i (by omega)), hN2, hUV, hUl, hA2, ?_, (i9.fr hf1 (fun _ => rfl) (fun _ => rfl) (fun c j a b => yn _ _ (by omega)) (fun _ => rfl)).fr hf2 (fun _ => rfl) (fun _ => rfl) (fun c j a b => hx _ _ (by omega)) (fun _ => rfl), (i10.fr hf1 rfl rfl (fun c j a b => yn _ _ (by omega)) (fun c j a b => yn _ _ (by omega))).fr hf2 rfl rfl (fun c j a b => hx _ _ (by omega)) (fun c j a b => hx _ _ (by omega)), by rw [hf2.2, hf1.2]; exact i11⟩
    refine ⟨(hf2.1 _ _ rfl).trans h45, fun j hj => ?_⟩
    have w := i8.2 j (by rw [hlen]; omega)
    rw [getD_app_lt _ _ _ hj] at w
    have e2 : nxT (C ++ [U]) T j = nxT C U j := by
      unfold nxT
      exact getD_app_lt _ _ _ (by rw [hlen]; omega)
    rw [e2] at w
    rw [hf2.1 46 j rfl, hf2.1 47 j rfl, (h467 j).1, (h467 j).2]
    exact w
  unfold m_X0_takeBack
  have h45 : σ.1 45 0 = nI (C.length + 1) := by rw [i8.1, hlen]
  rw [h45]
  refine ⟨fun _ => ?_, fun z => ?_⟩
  rotate_left
  · rw [show (0 : Int32) = nI 0 from rfl, nI_eq' (by omega) (by omega)] at z; omega
  unfold sIB
  dsimp only
  have e1 : nI (C.length + 1) - 1 = nI C.length := by rw [show (1 : Int32) = nI 1 from rfl, pk_sub (by omega)]; congr 1
  rw [e1, sI_in, nI_cl (by omega), sI_out (a := 47) _ _ (by omega), sI_out (a := 46) _ _ (by omega), hp1]
  have hf0 : fr Xd σ (sI σ 45 0 (nI C.length)) := fr_sI fr_rfl _ rfl
  have hR0 : RowOK 3 T (sI σ 45 0 (nI C.length)) := i3.fr (X := fun c _ => c == 45) (fr_sI fr_rfl _ rfl) (fun c i a b => by simp; omega)
  have vp : vp_in (nI C.length) 14 := vp_n (by omega) (by omega)
  have keepA : ∀ σ1, fr (XR 3) (sI σ 45 0 (nI C.length)) σ1 → RowOK 3 U σ1 → m_X9_undo σ1 (fun r2 σ2 => σ1.1 45 0 = r2 ∧ Inv σ2) := by
    intro σ1 hf1 hR1
    refine fin σ1 hR1 ((hf1.1 _ _ rfl).trans (sI_in _ _ _ _)) (fr_tr hf0 (fr_mono hf1 XR3_d)) (fun j => ⟨?_, ?_⟩)
    · rw [hf1.1 46 j rfl, sI_out _ _ (by omega)]
    · rw [hf1.1 47 j rfl, sI_out _ _ (by omega)]
  refine ⟨vp, ?_⟩
  rcases hp2 with ⟨pl, pT, pv⟩ | ⟨pl, pT, pv⟩
  · rw [pv]
    have hc := cod_lt (s := U.getD p (0, 0, 0)) ((hUV p pl).1) ((hUV p pl).2.2.1)
    refine ⟨fun z => ?_, fun _ => ⟨vp, vp, ?_⟩⟩
    · exfalso
      have := congrArg Int32.toInt z
      rw [nI_toInt (by omega)] at this
      have e : (-1 : Int32).toInt = -1 := by decide
      omega
    · rw [pT] at hR0
      exact q_putBack hR0 pl hUV hUl (fun σ1 hR1 hf1 => keepA σ1 hf1 hR1)
  · rw [pv]
    refine ⟨fun _ => ⟨vp, ?_⟩, fun z => absurd rfl z⟩
    have hTl : p + 1 < T.length := by rw [pT, swp_len]; exact pl
    have hsw : swp T p = U := by rw [pT, swp_swp U pl]
    refine q_changePlaces hR0 i5 i6 (fun k hk e hv σ1 hR1 hf1 => ?_) (fun hno σ1 hR1 hf1 => ?_)
    · rw [nI_eq' (by omega) (by omega)] at e
      subst e
      rw [hsw] at hR1
      exact keepA σ1 hf1 hR1
    · exact absurd (by rw [hsw]; exact hUV) (hno p hTl rfl)
theorem p_isFour {σ : St} {k : Nat} {Q : Int32 → St → Prop} (hk : k < 4) (h : Q 1 σ) : m_X9_isFour σ (nI k) Q := by
  unfold m_X9_isFour
  exact p_in4 hk ⟨by decide, h⟩
theorem p_isFour_n {σ : St} {x : Int32} {Q : Int32 → St → Prop} (hx : ¬ (0 ≤ x ∧ x ≤ 3)) (h : Q 0 σ) : m_X9_isFour σ x Q := by
  unfold m_X9_isFour
  exact p_in4n hx ⟨by decide, h⟩
theorem arg2 (x : Int32) : (∃ k, k < 2 ∧ x = nI k) ∨ ((x < 0 ∨ ¬ x < 2) ∧ (x < 0 ∨ ¬ x ≤ 1)) := by
  rcases arg_n x (n := 2) (by decide) with h | h | h
  · exact Or.inl h
  · exact Or.inr ⟨Or.inl h, Or.inl h⟩
  · have e2 : (nI 2).toInt = 2 := by decide
    have e2' : (2 : Int32).toInt = 2 := by decide
    have e1 : (1 : Int32).toInt = 1 := by decide
    rw [Int32.le_iff_toInt_le] at h
    refine Or.inr ⟨Or.inr (fun q => ?_), Or.inr (fun q => ?_)⟩
    · rw [Int32.lt_iff_toInt_lt] at q; omega
    · rw [Int32.le_iff_toInt_le] at q; omega
theorem p_in2 {σ : St} {k : Nat} {Q : Int32 → St → Prop} (hk : k < 2) (h : Q 1 σ) : m_X9_in σ (nI k).toInt64 0 1 Q := by
  refine p_in (fun _ _ => h) (fun z => absurd ?_ z)
  rw [show (0 : Int64) = (0 : Int32).toInt64 by decide, show (1 : Int64) = (1 : Int32).toInt64 by decide, i64_le, i64_le]
  exact ⟨nI_pos' (by omega), nI_le (b := 1) (by omega) (by decide)⟩
theorem p_in2n {σ : St} {x : Int32} {Q : Int32 → St → Prop} (hx : x < 0 ∨ ¬ x ≤ 1) (h : Q 0 σ) : m_X9_in σ x.toInt64 0 1 Q := by
  refine p_in (fun h1 h2 => ?_) (fun _ => h)
  rw [show (0 : Int64) = (0 : Int32).toInt64 by decide, i64_le] at h1
  rw [show (1 : Int64) = (1 : Int32).toInt64 by decide, i64_le] at h2
  rcases hx with q | q
  · rw [Int32.le_iff_toInt_le] at h1; rw [Int32.lt_iff_toInt_lt] at q; omega
  · exact absurd h2 q
theorem seen_upd {X : Nat → Nat} {n : Nat} {T : Tr} {B : List Tr} {nx : Nat} {σ τ : St} (hI : InvP X n T B nx σ) {Y : Nat → Nat → Bool} (hf : fr Y σ τ) (hY : ∀ c i, Y c i = true → (48 ≤ c ∧ c ≤ 51) ∨ (80 ≤ c ∧ c ≤ 82) ∨ (c = 61 ∧ i = 32)) (hS : Seen τ) : InvP X n T B nx τ := by
  obtain ⟨i1, i2, i3, i4, i5, i6, i7, i8, i9, i10, i11⟩ := hI
  have yn : ∀ c i, ¬ ((48 ≤ c ∧ c ≤ 51) ∨ (80 ≤ c ∧ c ≤ 82) ∨ (c = 61 ∧ i = 32)) → Y c i = false := fun c i q => by
    cases h : Y c i
    · rfl
    · exact absurd (hY c i h) q
  exact ⟨i1.fr hf (yn _ _ (by omega)) (fun _ => yn _ _ (by omega)), i2.fr hf (yn _ _ (by omega)) (fun _ => yn _ _ (by omega)), i3.fr hf (fun c i a b => yn _ _ (by omega)), i4.fr hf (fun _ => yn _ _ (by omega)), i5, i6, i7.fr hf (yn _ _ (by omega)) (yn _ _ (by omega)) (fun _ => yn _ _ (by omega)), i8.fr hf (yn _ _ (by omega)) (fun _ => yn _ _ (by omega)) (fun _ => yn _ _ (by omega)), i9.fr hf (fun _ => yn _ _ (by omega)) (fun _ => yn _ _ (by omega)) (fun c j a b => yn _ _ (by omega)) (fun _ => yn _ _ (by omega)), hS, by rw [hf.2]; exact i11⟩
def Xse (c i : Nat) : Bool := (decide (48 ≤ c) && decide (c ≤ 51)) || (decide (80 ≤ c) && decide (c ≤ 82)) || (c == 61 && i == 32)
theorem Xse_ok : ∀ c i, Xse c i = true → (48 ≤ c ∧ c ≤ 51) ∨ (80 ≤ c ∧ c ≤ 82) ∨ (c = 61 ∧ i = 32) := by
  intro c i h
  simp only [Xse, Bool.or_eq_true, Bool.and_eq_true, beq_iff_eq, decide_eq_true_eq] at h; omega
theorem k_unsee {σ : St} (h : Inv σ) : m_X8_unsee σ (fun r σ1 => m_X9_unsee σ1 (fun r2 σ2 => r = r2 ∧ Inv σ2)) := by
  obtain ⟨X, n, T, B, nx, hI⟩ := h
  obtain ⟨z, hz, s1, s2, s3⟩ := hI.2.2.2.2.2.2.2.2.2.1
  unfold m_X8_unsee m_X9_unsee
  refine bI_i ?_
  unfold sIB
  refine bI_i ?_
  rw [s1, sI_out (a := 61) (j := 32) _ _ (by omega), s2]
  refine ⟨rfl, X, n, T, B, nx, seen_upd hI (Y := Xse) (fr_sI (fr_sI fr_rfl _ rfl) _ rfl) Xse_ok ⟨0, by omega, ?_, sI_in _ _ _ _, fun i hi => by omega⟩⟩
  rw [sI_out _ _ (by omega), sI_in]; rfl
theorem k_see {σ : St} (h : Inv σ) (a b c : Int32) : m_X8_see σ a b c (fun r σ1 => m_X9_see σ1 a b c (fun r2 σ2 => r = r2 ∧ Inv σ2)) := by
  obtain ⟨X, n, T, B, nx, hI⟩ := h
  have hI0 : Inv σ := ⟨X, n, T, B, nx, hI⟩
  obtain ⟨z, hz, s1, s2, s3⟩ := hI.2.2.2.2.2.2.2.2.2.1
  unfold m_X8_see
  rcases arg4 a with ⟨ka, hka, rfl⟩ | ha
  rotate_left
  · refine q_one4n ha ⟨fun z => absurd rfl z, fun _ => ?_⟩
    unfold m_X9_see
    exact p_isFour_n ha ⟨fun z => absurd rfl z, fun _ => ⟨rfl, hI0⟩⟩
  refine q_one4 hka ⟨fun _ => ?_, fun z => absurd z (by decide)⟩
  have mout : (¬ (0 ≤ b ∧ b ≤ 3) ∨ (c < 0 ∨ ¬ c ≤ 1)) → m_X9_see σ (nI ka) b c (fun r2 σ2 => -2 = r2 ∧ Inv σ2) := by
    intro hb
    unfold m_X9_see
    refine p_isFour hka ⟨fun _ => ?_, fun z => absurd z (by decide)⟩
    rcases arg4 b with ⟨kb, hkb, rfl⟩ | hb2
    · rcases hb with hb | hb
      · exact absurd (nI_in4 hkb) hb
      · exact p_isFour hkb ⟨fun z => absurd z (by decide), fun _ => p_in2n hb ⟨fun z => absurd rfl z, fun _ => ⟨rfl, hI0⟩⟩⟩
    · exact p_isFour_n hb2 ⟨fun _ => ⟨rfl, hI0⟩, fun z => absurd rfl z⟩
  have e3 : (3 : Int32).toInt = 3 := by decide
  have e0 : (0 : Int32).toInt = 0 := by decide
  refine ⟨fun q => mout (Or.inl (fun w => ?_)), fun q => ⟨fun q2 => mout (Or.inl (fun w => ?_)), fun q2 => ⟨fun q3 => mout (Or.inr (Or.inl q3)), fun q3 => ⟨fun q4 => ?_, fun q4 => mout (Or.inr (Or.inr q4))⟩⟩⟩⟩
  · have := w.1; rw [Int32.le_iff_toInt_le] at this; rw [Int32.lt_iff_toInt_lt] at q; omega
  · have := w.2; rw [Int32.le_iff_toInt_le] at this; rw [Int32.lt_iff_toInt_lt] at q2; omega
  rcases arg4 b with ⟨kb, hkb, rfl⟩ | hb2
  rotate_left
  · exfalso
    refine hb2 ⟨?_, ?_⟩
    · rw [Int32.lt_iff_toInt_lt] at q; rw [Int32.le_iff_toInt_le]; omega
    · rw [Int32.lt_iff_toInt_lt] at q2; rw [Int32.le_iff_toInt_le]; omega
  rcases arg2 c with ⟨kc, hkc, rfl⟩ | hc2
  rotate_left
  · rcases hc2.2 with w | w
    · exact absurd w q3
    · exact absurd q4 w
  have J : m_X8_see_J46 (nI ka) (nI kb) (nI kc) (fun r σ1 => m_X9_see σ1 (nI ka) (nI kb) (nI kc) (fun r2 σ2 => r = r2 ∧ Inv σ2)) σ (nI ka) (nI kb) (nI kc) := by
    unfold m_X8_see_J46 m_X5_put
    rw [s1, show (6 : Int32) = nI 6 from rfl, nI_lt' (by omega) (by omega)]
    have hnar : vp_nar .boolean (nI kc) = nI kc := by
      have : kc = 0 ∨ kc = 1 := by omega
      rcases this with rfl | rfl <;> decide
    refine ⟨fun w => ⟨vp_n w (by omega), ?_⟩, fun w => ⟨fun _ => ?_, fun z => absurd rfl z⟩⟩
    · unfold sIB
      dsimp only
      rw [nI_cl (by omega), sI_out (a := 48) (j := 0) _ _ (by omega), s1, nI_cl (by omega), sI_out (a := 48) (j := 0) _ _ (by omega), sI_out (a := 48) (j := 0) _ _ (by omega), s1, nI_cl (by omega), hnar]
      refine ⟨vp_n w (by omega), vp_n w (by omega), ?_⟩
      rw [sI_out (a := 48) (j := 0) (c := 51) _ _ (by omega), sI_out (a := 48) (j := 0) (c := 50) _ _ (by omega), sI_out (a := 48) (j := 0) (c := 49) _ _ (by omega), s1, nI_1]
      refine ⟨fun z => absurd z (by decide), fun _ => ?_⟩
      rw [sI_in]
      generalize hσ1 : sI (sI (sI (sI σ 49 z (nI ka)) 50 z (nI kb)) 51 z (nI kc)) 48 0 (nI (z + 1)) = σ1
      have hf1 : fr Xse σ σ1 := by rw [← hσ1]; exact fr_sI (fr_sI (fr_sI (fr_sI fr_rfl _ rfl) _ rfl) _ rfl) _ rfl
      have m32 : σ1.1 61 32 = nI z := by rw [← hσ1, sI_out _ _ (by omega), sI_out _ _ (by omega), sI_out _ _ (by omega), sI_out _ _ (by omega), s2]
      unfold m_X9_see
      refine p_isFour hka ⟨fun _ => ?_, fun z => absurd z (by decide)⟩
      refine p_isFour hkb ⟨fun z => absurd z (by decide), fun _ => ?_⟩
      refine p_in2 hkc ⟨fun _ => ?_, fun z => absurd z (by decide)⟩
      rw [m32, show (6 : Int32) = nI 6 from rfl, nI_eq' (by omega) (by omega)]
      refine ⟨fun _ => ⟨vp_n w (by omega), ?_⟩, fun w2 => by omega⟩
      unfold sIB
      dsimp only
      rw [nI_cl (by omega), sI_out (a := 61) (j := 32) _ _ (by omega), m32, nI_cl (by omega), sI_out (a := 61) (j := 32) _ _ (by omega), sI_out (a := 61) (j := 32) _ _ (by omega), m32, nI_cl (by omega)]
      refine ⟨vp_n w (by omega), vp_n w (by omega), ?_⟩
      rw [sI_out (a := 61) (j := 32) (c := 82) _ _ (by omega), sI_out (a := 61) (j := 32) (c := 81) _ _ (by omega), sI_out (a := 61) (j := 32) (c := 80) _ _ (by omega), m32, nI_1, sI_in]
      refine ⟨rfl, X, n, T, B, nx, seen_upd hI (Y := Xse) (fr_sI (fr_sI (fr_sI (fr_sI hf1 _ rfl) _ rfl) _ rfl) _ rfl) Xse_ok ⟨z + 1, by omega, ?_, sI_in _ _ _ _, fun i hi => ?_⟩⟩
      · rw [sI_out _ _ (by omega), sI_out _ _ (by omega), sI_out _ _ (by omega), sI_out _ _ (by omega), ← hσ1, sI_in]
      · by_cases e : i = z
        · subst e
          refine ⟨ka, kb, kc, hka, hkb, hkc, ?_, ?_, ?_, ?_, ?_, ?_⟩
          · rw [sI_out _ _ (by omega), sI_out _ _ (by omega), sI_out _ _ (by omega), sI_out _ _ (by omega), ← hσ1, sI_out _ _ (by omega), sI_out _ _ (by omega), sI_out _ _ (by omega), sI_in]
          · rw [sI_out _ _ (by omega), sI_out _ _ (by omega), sI_out _ _ (by omega), sI_in]
          · rw [sI_out _ _ (by omega), sI_out _ _ (by omega), sI_out _ _ (by omega), sI_out _ _ (by omega), ← hσ1, sI_out _ _ (by omega), sI_out _ _ (by omega), sI_in]
          · rw [sI_out _ _ (by omega), sI_out _ _ (by omega), sI_in]
          · rw [sI_out _ _ (by omega), sI_out _ _ (by omega), sI_out _ _ (by omega), sI_out _ _ (by omega), ← hσ1, sI_out _ _ (by omega), sI_in]
          · rw [sI_out _ _ (by omega), sI_in]
        · have old := s3 i (by omega)
          unfold SeenE at old ⊢
          rw [← hσ1]
          have red : ∀ c, c ≠ 48 → c ≠ 61 → (sI (sI (sI (sI (sI (sI (sI (sI σ 49 z (nI ka)) 50 z (nI kb)) 51 z (nI kc)) 48 0 (nI (z + 1))) 80 z (nI ka)) 81 z (nI kb)) 82 z (nI kc)) 61 32 (nI (z + 1))).1 c i = σ.1 c i := by
            intro c c1 c2
            rw [sI_out _ _ (by omega), sI_out _ _ (by omega), sI_out _ _ (by omega), sI_out _ _ (by omega), sI_out _ _ (by omega), sI_out _ _ (by omega), sI_out _ _ (by omega), sI_out _ _ (by omega)]
          rw [red 49 (by omega) (by omega), red 80 (by omega) (by omega), red 50 (by omega) (by omega), red 81 (by omega) (by omega), red 51 (by omega) (by omega), red 82 (by omega) (by omega)]
          exact old
    · unfold m_X9_see
      refine p_isFour hka ⟨fun _ => ?_, fun z => absurd z (by decide)⟩
      refine p_isFour hkb ⟨fun z => absurd z (by decide), fun _ => ?_⟩
      refine p_in2 hkc ⟨fun _ => ?_, fun z => absurd z (by decide)⟩
      rw [s2, show (6 : Int32) = nI 6 from rfl, nI_eq' (by omega) (by omega)]
      exact ⟨fun w2 => absurd (by omega) w2, fun _ => ⟨rfl, hI0⟩⟩
  have : kc = 0 ∨ kc = 1 := by omega
  rcases this with rfl | rfl
  · exact ⟨fun _ => J, fun w => absurd w (by decide)⟩
  · exact ⟨fun w => absurd rfl w, fun _ => J⟩
theorem k_seed {σ : St} (h : Inv σ) (v : Int64) : m_X8_seed σ v (fun r σ1 => m_X9_seed σ1 v (fun r2 σ2 => r = r2 ∧ Inv σ2)) := by
  obtain ⟨X, n, T, B, nx, hI⟩ := h
  have e := hI.2.2.2.2.2.2.2.2.2.2
  unfold m_X8_seed m_X9_seed
  refine bL_i ?_
  unfold sLB
  refine bL_i ?_
  have e1 : (sL σ 0 9 v).2 61 36 = σ.2 61 36 := by rw [sL_get, if_neg (by omega)]
  rw [e1]
  refine ⟨e, X, n, T, B, nx, ?_⟩
  obtain ⟨i1, i2, i3, i4, i5, i6, i7, i8, i9, i10, i11⟩ := hI
  refine ⟨i1, i2, i3, i4, i5, i6, i7, i8, i9, i10, ?_⟩
  rw [sL_get, sL_get, if_neg (by omega), if_pos ⟨rfl, rfl⟩, sL_get, if_pos ⟨rfl, rfl⟩]
