/-! ===== step, cell; cells that are flagged ===== -/
theorem p_letterOf {σ : St} {g : Nat} {Q : Int32 → St → Prop} (hg : g < 7) (h : Q (nI (ltr g)) σ) : m_X9_letterOf σ (nI g) Q := by
  unfold m_X9_letterOf
  rw [show (0 : Int32) = nI 0 from rfl, show (1 : Int32) = nI 1 from rfl, show (2 : Int32) = nI 2 from rfl, show (3 : Int32) = nI 3 from rfl, show (4 : Int32) = nI 4 from rfl, show (5 : Int32) = nI 5 from rfl]
  rw [nI_eq' (by omega) (by omega), nI_eq' (by omega) (by omega), nI_eq' (by omega) (by omega), nI_eq' (by omega) (by omega), nI_eq' (by omega) (by omega), nI_eq' (by omega) (by omega)]
  refine ⟨fun q => ?_, fun q => ?_, fun q => ?_, fun q => ?_, fun q => ?_, fun q => ?_, fun q => ?_⟩
  all_goals first | (subst q; exact h) | skip
  have : g = 6 := by omega
  subst this
  exact h
theorem k_step {σ : St} (h : Inv σ) (a b : Int32) : m_X8_step σ a b (fun r σ1 => m_X9_step σ1 a b (fun r2 σ2 => r = r2 ∧ Inv σ2)) := by
  obtain ⟨X, n, T, B, nx, hI⟩ := h
  obtain ⟨i1, i2, i3, i4, i5, i6, i7, i8, i9, i10, i11⟩ := id hI
  have hB := i5.bnd i6
  unfold m_X8_step
  refine q_has i3.1 i6 (fun k hk e => ?_) (fun hno => ⟨fun z => absurd rfl z, fun _ => ?_⟩)
  rotate_left
  · unfold m_X9_step
    exact p_isStep (L := 0) i4 (by omega) i6 (fun k hk e => absurd e (hno k hk)) (fun _ => ⟨fun z => absurd rfl z, fun _ => ⟨rfl, X, n, T, B, nx, hI⟩⟩)
  subst e
  have v := r_vp i6 hk
  have M : ∀ r : Int32, (∀ τ, NowOK 0 T τ → HeldM T τ → Inv τ → (b = 0 → m_X9_threadAt τ 0 (nI k) (fun r55 σ55 => r = r55 ∧ Inv σ55)) ∧ (b = 1 → m_X9_signAt τ 0 (nI k) (fun r62 σ62 => m_X9_letterOf σ62 r62 (fun r65 σ65 => r = r65 ∧ Inv σ65))) ∧ (b = 2 → m_X9_aboutAt τ 0 (nI k) (fun r72 σ72 => r = r72 ∧ Inv σ72)) ∧ (b = 3 → (vp_in (nI k) 20 ∧ (r = τ.1 67 (nI k).toNatClampNeg ∧ Inv τ))) ∧ (b = 4 → (vp_in (nI k) 20 ∧ (r = τ.1 68 (nI k).toNatClampNeg ∧ Inv τ))) ∧ (¬ b = 0 ∧ ¬ b = 1 ∧ ¬ b = 2 ∧ ¬ b = 3 ∧ ¬ b = 4 → (r = -2 ∧ Inv τ))) → m_X9_step σ (nI k) b (fun r2 σ2 => r = r2 ∧ Inv σ2) := by
    intro r hr
    unfold m_X9_step
    refine p_isStep (L := 0) i4 (by omega) i6 (fun _ _ _ => ⟨fun _ => ?_, fun z => absurd z (by decide)⟩) (fun hno => absurd rfl (hno k hk))
    refine p_findHeld (L := 0) i4 hB (by omega) (fun τ hW hH hf => ?_)
    have hI1 := hI.keep (hf.keep Xh_keep)
    exact hr τ hI1.2.2.2.1 hH ⟨X, n, T, B, nx, hI1⟩
  obtain ⟨b1, b2, b3, _⟩ := i5 k hk
  have d : ∀ {x y : Int32}, (x = y → False) → ∀ {P : Prop}, x = y → P := fun hxy _ e => absurd e hxy
  refine ⟨fun _ => ⟨fun q => ?_, fun q => ?_, fun q => ?_, fun q => ⟨v, ?_⟩, fun q => ⟨v, ?_⟩, fun q => ?_⟩, fun z => absurd z (by decide)⟩
  · subst q
    refine r_threadAt i3 i5 i6 hk (M _ (fun τ hN hH hIt => ?_))
    exact ⟨fun _ => p_threadAt (L := 0) hN hB (by omega) hk ⟨rfl, hIt⟩, fun z => absurd z (by decide), fun z => absurd z (by decide), fun z => absurd z (by decide), fun z => absurd z (by decide), fun z => absurd rfl z.1⟩
  · subst q
    refine r_signAt i3 i5 i6 hk (M _ (fun τ hN hH hIt => ?_))
    exact ⟨fun z => absurd z (by decide), fun _ => p_signAt (L := 0) hN hB (by omega) hk (p_letterOf b2 ⟨rfl, hIt⟩), fun z => absurd z (by decide), fun z => absurd z (by decide), fun z => absurd z (by decide), fun z => absurd rfl z.2.1⟩
  · subst q
    refine r_aboutAt i3 i5 i6 hk (M _ (fun τ hN hH hIt => ?_))
    exact ⟨fun z => absurd z (by decide), fun z => absurd z (by decide), fun _ => p_aboutAt (L := 0) hN hB (by omega) hk ⟨rfl, hIt⟩, fun z => absurd z (by decide), fun z => absurd z (by decide), fun z => absurd rfl z.2.2.1⟩
  · subst q
    rw [nI_cl (by omega), (i3.2.1 k hk).2.1]
    refine M _ (fun τ hN hH hIt => ?_)
    refine ⟨fun z => absurd z (by decide), fun z => absurd z (by decide), fun z => absurd z (by decide), fun _ => ⟨v, ?_, hIt⟩, fun z => absurd z (by decide), fun z => absurd rfl z.2.2.2.1⟩
    rw [nI_cl (by omega), (hH k hk).1]
  · subst q
    rw [nI_cl (by omega), (i3.2.1 k hk).2.2.1]
    refine M _ (fun τ hN hH hIt => ?_)
    refine ⟨fun z => absurd z (by decide), fun z => absurd z (by decide), fun z => absurd z (by decide), fun z => absurd z (by decide), fun _ => ⟨v, ?_, hIt⟩, fun z => absurd rfl z.2.2.2.2⟩
    rw [nI_cl (by omega), (hH k hk).2]
  · refine M _ (fun τ hN hH hIt => ?_)
    exact ⟨fun z => absurd z q.1, fun z => absurd z q.2.1, fun z => absurd z q.2.2.1, fun z => absurd z q.2.2.2.1, fun z => absurd z q.2.2.2.2, fun _ => ⟨rfl, hIt⟩⟩
theorem none9 (T : Tr) (hl : T.length ≤ 20) : ∀ k, k < T.length → (nI k = -9 ↔ (fun _ : Nat => false) k = true) := fun k hk => ⟨fun q => absurd q (ne9 k (by omega)), fun q => by cases q⟩
theorem bt00 : bt 0 = fun _ => false := by funext i; exact b_0 i
theorem arg_le (x : Int32) {n : Nat} (hn : n < 1000) : (∃ k, k ≤ n ∧ x = nI k) ∨ ((x < 0 ∨ ¬ x ≤ nI n) ∧ ¬ ((0 : Int64) ≤ x.toInt64 ∧ x.toInt64 ≤ (nI n).toInt64)) := by
  rcases arg_n x (n := n + 1) (by omega) with ⟨k, hk, e⟩ | q | q
  · exact Or.inl ⟨k, by omega, e⟩
  · exact Or.inr ⟨Or.inl q, neg_lt q _⟩
  · have z : ¬ x ≤ nI n := by
      rw [Int32.le_iff_toInt_le] at q ⊢
      rw [nI_toInt (by omega)] at q ⊢
      omega
    refine Or.inr ⟨Or.inr z, fun w => z ?_⟩
    have := w.2
    rwa [i64_le] at this
theorem k_cell {σ : St} (h : Inv σ) (a b c : Int32) : m_X8_cell σ a b c (fun r σ1 => m_X9_cell σ1 a b c (fun r2 σ2 => r = r2 ∧ Inv σ2)) := by
  obtain ⟨X, n, T, B, nx, hI⟩ := h
  have hI0 : Inv σ := ⟨X, n, T, B, nx, hI⟩
  obtain ⟨i1, i2, i3, i4, i5, i6, i7, i8, i9, i10, i11⟩ := id hI
  have hB := i5.bnd i6
  unfold m_X8_cell
  rcases arg4 a with ⟨ka, hka, rfl⟩ | ha
  rotate_left
  · refine q_one4n ha ⟨fun z => absurd rfl z, fun _ => ?_⟩
    unfold m_X9_cell
    exact p_isFour_n ha ⟨fun z => absurd rfl z, fun _ => ⟨rfl, hI0⟩⟩
  refine q_one4 hka ⟨fun _ => ?_, fun z => absurd z (by decide)⟩
  rw [i3.1]
  have mb : ¬ ((0 : Int64) ≤ b.toInt64 ∧ b.toInt64 ≤ (nI T.length).toInt64) → m_X9_cell σ (nI ka) b c (fun r2 σ2 => -2 = r2 ∧ Inv σ2) := by
    intro hb
    unfold m_X9_cell
    refine p_isFour hka ⟨fun _ => ?_, fun z => absurd z (by decide)⟩
    refine p_many (L := 0) i4 (by omega) ?_
    exact p_in (fun h1 h2 => absurd ⟨h1, h2⟩ hb) (fun _ => ⟨fun _ => ⟨rfl, hI0⟩, fun z => absurd rfl z⟩)
  rcases arg_le b (n := T.length) (by omega) with ⟨kb, hkb, rfl⟩ | ⟨hb1, hb2⟩
  rotate_left
  · refine ⟨fun _ => mb hb2, fun q => ⟨fun q2 => ?_, fun _ => mb hb2⟩⟩
    rcases hb1 with w | w
    · exact absurd w q
    · exact absurd q2 w
  refine ⟨fun q => absurd q (nI_pos (by omega)), fun _ => ⟨fun _ => ?_, fun q => absurd (nI_le hkb (by omega)) q⟩⟩
  refine q_watch i3 i5 i6 hka hkb (none9 T i6) (fun x hx => ?_)
  have inb : (0 : Int64) ≤ (nI kb).toInt64 ∧ (nI kb).toInt64 ≤ (nI T.length).toInt64 := by
    rw [show (0 : Int64) = (0 : Int32).toInt64 by decide, i64_le, i64_le]
    exact ⟨nI_pos' (by omega), nI_le hkb (by omega)⟩
  have sml := wf_small T ka 15 (fun _ => false) kb
  -- the reference, with the answer r
  have M : ∀ r : Int32, ((0 : Int64) ≤ c.toInt64 ∧ c.toInt64 ≤ 4) → (∀ τ, WCell (wf T ka 15 (fun _ => false) kb) τ → Inv τ → (c = 0 → (r = τ.1 61 13 ∧ Inv τ)) ∧ (c = 1 → ((2 ≤ τ.1 61 13 → (r = τ.1 61 14 ∧ Inv τ)) ∧ (¬ 2 ≤ τ.1 61 13 → (r = 15 ∧ Inv τ)))) ∧ (c = 2 → ((¬ τ.1 61 13 = 1 → (r = -9 ∧ Inv τ)) ∧ (τ.1 61 13 = 1 → (r = τ.1 61 15 ∧ Inv τ)))) ∧ (c = 3 → (r = τ.1 61 16 ∧ Inv τ)) ∧ (¬ c = 0 ∧ ¬ c = 1 ∧ ¬ c = 2 ∧ ¬ c = 3 → (r = τ.1 61 17 ∧ Inv τ))) → m_X9_cell σ (nI ka) (nI kb) c (fun r2 σ2 => r = r2 ∧ Inv σ2) := by
    intro r hc hr
    unfold m_X9_cell
    refine p_isFour hka ⟨fun _ => ?_, fun z => absurd z (by decide)⟩
    refine p_many (L := 0) i4 (by omega) ?_
    refine p_in (fun _ _ => ⟨fun z => absurd z (by decide), fun _ => ?_⟩) (fun z => absurd inb z)
    refine p_in (fun _ _ => ⟨fun _ => ?_, fun z => absurd z (by decide)⟩) (fun z => absurd hc z)
    refine p_findHeld (L := 0) i4 hB (by omega) (fun τ hW hH hf => ?_)
    have hI1 := hI.keep (hf.keep Xh_keep)
    refine p_watchCell (L := 0) hI1.2.2.2.1 hB hH (by omega) hka hkb (fun υ hWu hfu => ?_)
    rw [bt00] at hWu
    exact hr υ hWu ⟨X, n, T, B, nx, hI1.keep (hfu.keep XW_keep)⟩
  have hc0 : ∀ k, k ≤ 4 → ((0 : Int64) ≤ (nI k).toInt64 ∧ (nI k).toInt64 ≤ 4) := by
    intro k hk
    rw [show (0 : Int64) = (0 : Int32).toInt64 by decide, show (4 : Int64) = (nI 4).toInt64 by decide, i64_le, i64_le]
    exact ⟨nI_pos' (by omega), nI_le hk (by omega)⟩
  have d2 : (2 : Int32) = nI 2 := rfl
  have d1 : (1 : Int32) = nI 1 := rfl
  refine ⟨fun q => ?_, fun q => ?_, fun q => ?_, fun q => ?_, fun q => ?_, fun q => ?_⟩
  · subst q
    unfold m_X1_stateOf
    rw [hx.st.1]
    refine M _ (hc0 0 (by omega)) (fun τ hW hIt => ?_)
    exact ⟨fun _ => ⟨hW.1.symm, hIt⟩, fun z => absurd z (by decide), fun z => absurd z (by decide), fun z => absurd z (by decide), fun z => absurd rfl z.1⟩
  · subst q
    unfold m_X1_candidatesOf m_X1_stateOf
    dsimp only
    rw [hx.st.1, d2, nI_lt' (by omega) (by omega)]
    refine ⟨fun q2 => M _ (hc0 1 (by omega)) (fun τ hW hIt => ?_), fun q2 => M _ (hc0 1 (by omega)) (fun τ hW hIt => ?_)⟩
    · refine ⟨fun z => absurd z (by decide), fun _ => ?_, fun z => absurd z (by decide), fun z => absurd z (by decide), fun z => absurd rfl z.2.1⟩
      rw [hW.1, d2, nI_le' (by omega) (by omega)]
      exact ⟨fun z => by omega, fun _ => ⟨rfl, hIt⟩⟩
    · refine ⟨fun z => absurd z (by decide), fun _ => ?_, fun z => absurd z (by decide), fun z => absurd z (by decide), fun z => absurd rfl z.2.1⟩
      rw [hW.1, d2, nI_le' (by omega) (by omega)]
      refine ⟨fun _ => ⟨?_, hIt⟩, fun z => by omega⟩
      rcases hx with ⟨w1, w2⟩ | ⟨w1, _⟩ | ⟨m, hm, w1, w2, w3⟩
      · omega
      · omega
      · rw [hW.2.1, w2, w3, pk_andN (by omega) 4 (by decide)]; congr 1; omega
  · subst q
    unfold m_X1_ownerOf m_X1_stateOf
    dsimp only
    rw [hx.st.1, d1, nI_eq' (by omega) (by omega)]
    refine ⟨fun q2 => M _ (hc0 2 (by omega)) (fun τ hW hIt => ?_), fun q2 => M _ (hc0 2 (by omega)) (fun τ hW hIt => ?_)⟩
    · refine ⟨fun z => absurd z (by decide), fun z => absurd z (by decide), fun _ => ?_, fun z => absurd z (by decide), fun z => absurd rfl z.2.2.1⟩
      rw [hW.1, d1, nI_eq' (by omega) (by omega)]
      exact ⟨fun _ => ⟨rfl, hIt⟩, fun z => absurd z q2⟩
    · refine ⟨fun z => absurd z (by decide), fun z => absurd z (by decide), fun _ => ?_, fun z => absurd z (by decide), fun z => absurd rfl z.2.2.1⟩
      rw [hW.1, d1, nI_eq' (by omega) (by omega)]
      refine ⟨fun z => absurd q2 z, fun _ => ⟨?_, hIt⟩⟩
      rcases hx with ⟨w1, w2⟩ | ⟨w1, o, ho, w2, w3⟩ | ⟨m, hm, w1, w2, w3⟩
      · omega
      · rw [hW.2.2.1, w2, w3, pk_andN (by omega) 2 (by decide)]; congr 1; omega
      · omega
  · subst q
    refine q_flaggedBy i3 i5 i6 hka hkb ?_
    refine M _ (hc0 3 (by omega)) (fun τ hW hIt => ?_)
    exact ⟨fun z => absurd z (by decide), fun z => absurd z (by decide), fun z => absurd z (by decide), fun _ => ⟨hW.2.2.2.1.symm, hIt⟩, fun z => absurd rfl z.2.2.2⟩
  · subst q
    refine q_touches i3 i5 i6 hka hkb ?_
    refine M _ (hc0 4 (by omega)) (fun τ hW hIt => ?_)
    exact ⟨fun z => absurd z (by decide), fun z => absurd z (by decide), fun z => absurd z (by decide), fun z => absurd z (by decide), fun _ => ⟨hW.2.2.2.2.symm, hIt⟩⟩
  · unfold m_X9_cell
    refine p_isFour hka ⟨fun _ => ?_, fun z => absurd z (by decide)⟩
    refine p_many (L := 0) i4 (by omega) ?_
    refine p_in (fun _ _ => ⟨fun z => absurd z (by decide), fun _ => ?_⟩) (fun z => absurd inb z)
    refine p_in (fun w1 w2 => ?_) (fun _ => ⟨fun z => absurd rfl z, fun _ => ⟨rfl, hI0⟩⟩)
    exfalso
    rw [show (0 : Int64) = (0 : Int32).toInt64 by decide, i64_le] at w1
    rw [show (4 : Int64) = (nI 4).toInt64 by decide, i64_le] at w2
    obtain ⟨k, hk, e⟩ : ∃ k, k ≤ 4 ∧ c = nI k := by
      rcases arg_le c (n := 4) (by omega) with w | w
      · exact w
      · rcases w.1 with w | w
        · rw [Int32.le_iff_toInt_le] at w1; rw [Int32.lt_iff_toInt_lt] at w; omega
        · exact absurd w2 w
    have : k = 0 ∨ k = 1 ∨ k = 2 ∨ k = 3 ∨ k = 4 := by omega
    rcases this with rfl | rfl | rfl | rfl | rfl
    · exact q.1 e
    · exact q.2.1 e
    · exact q.2.2.1 e
    · exact q.2.2.2.1 e
    · exact q.2.2.2.2 e
/-- the flagged cells, as bits -/
def fbt (T : Tr) (lk : Int32) : Nat → Int32
  | 0 => 0
  | c + 1 => fbt T lk c ||| (if (wf T c lk (fun _ => false) T.length).2.2.2.1 = -9 then 0 else bitI c)
theorem sm_fbt (T : Tr) (lk : Int32) : ∀ c, c ≤ 4 → sm (fbt T lk c)
  | 0, _ => sm_0
  | c + 1, h => by
    unfold fbt
    refine sm_or (sm_fbt T lk c (by omega)) ?_
    split
    · exact sm_0
    · exact sm_bit (by omega)
theorem or_0 (x : Int32) : x ||| 0 = x := by
  apply b_ext; intro i hi; rw [b_or, b_0, Bool.or_false]
theorem q_flaggedBits {b : Nat} {T : Tr} {σ : St} {lk : Int32} {Q : Int32 → St → Prop} (hR : RowOK b T σ) (hV : Val T) (hl : T.length ≤ 20) (h : Q (fbt T lk 4) σ) : m_X1_flaggedBits b σ lk Q := by
  unfold m_X1_flaggedBits
  refine lpE2 (m_X1_flaggedBits_L4b b lk Q (fun σ x2 => m_X1_flaggedBits_J38 b lk Q σ x2)) (fun _ => rfl) (fun m τ x y => ∃ c, c ≤ 4 ∧ y = nI c ∧ m = 4 - c ∧ τ = σ ∧ x = fbt T lk c) ?_ (n := 4) ⟨0, by omega, rfl, rfl, rfl, rfl⟩
  rintro m τ x y Rc ⟨c, hc, rfl, hm, rfl, rfl⟩ hRc
  unfold m_X1_flaggedBits_L4b
  rw [show (4 : Int32) = nI 4 from rfl, nI_le' (by omega) (by omega)]
  refine ⟨fun q => ?_, fun q => ?_⟩
  · have e : c = 4 := by omega
    subst e
    exact h
  rw [hR.1, nI_1]
  refine q_watch hR hV hl (by omega) (Nat.le_refl _) (none9 T hl) (fun x hx => ?_)
  have fi := flg_iff T c lk (fun _ => false) T.length (by omega)
  have e2 : fbt T lk (c + 1) = fbt T lk c ||| (if (wf T c lk (fun _ => false) T.length).2.2.2.1 = -9 then 0 else bitI c) := rfl
  refine ⟨fun q2 => ?_, fun q2 => bI_i ?_⟩
  · refine hRc (4 - (c + 1)) _ _ _ (by omega) ⟨c + 1, by omega, rfl, rfl, rfl, ?_⟩
    rw [e2, if_pos (Classical.byContradiction (fun z => q2 (hx.flag.mpr (fi.mp z)))), or_0]
  · refine hRc (4 - (c + 1)) _ _ _ (by omega) ⟨c + 1, by omega, rfl, rfl, rfl, ?_⟩
    rw [e2, if_neg (fi.mpr (hx.flag.mp q2))]
    rfl
theorem p_flaggedOn {σ : St} {L : Nat} {T : Tr} {lk : Int32} {Q : Int32 → St → Prop} (hN : NowOK L T σ) (hB : Bnd T) (hH : HeldM T σ) (hL : L < 2) (h : ∀ τ, fr XW σ τ → Q (fbt T lk 4) τ) : m_X9_flaggedOn σ (nI L) lk Q := by
  unfold m_X9_flaggedOn
  have hb := hB.1
  refine lpE2 (m_X9_flaggedOn_L5b (nI L) lk Q (fun σ x3 => m_X9_flaggedOn_J51 (nI L) lk Q σ x3)) (fun _ => rfl) (fun m τ x y => ∃ c, c ≤ 4 ∧ y = nI c ∧ m = 4 - c ∧ fr XW σ τ ∧ x = fbt T lk c) ?_ (n := 4) ⟨0, by omega, rfl, rfl, fr_rfl, rfl⟩
  rintro m τ x y Rc ⟨c, hc, rfl, hm, hf, rfl⟩ hRc
  unfold m_X9_flaggedOn_L5b
  rw [show (4 : Int32) = nI 4 from rfl, nI_le' (by omega) (by omega)]
  refine ⟨fun q => ?_, fun q => ?_⟩
  · have e : c = 4 := by omega
    subst e
    exact h τ hf
  have hN' := hN.fr hf (fun _ => rfl)
  refine p_many hN' hL ?_
  refine p_watchCell hN' hB (hH.fr hf (fun _ => rfl) (fun _ => rfl)) hL (by omega) (Nat.le_refl _) (fun υ hW hfu => ?_)
  rw [bt00] at hW
  rw [hW.2.2.2.1, nI_1]
  have e2 : fbt T lk (c + 1) = fbt T lk c ||| (if (wf T c lk (fun _ => false) T.length).2.2.2.1 = -9 then 0 else bitI c) := rfl
  refine ⟨fun q2 => bI_i ?_, fun q2 => bI_i ?_⟩
  · refine hRc (4 - (c + 1)) _ _ _ (by omega) ⟨c + 1, by omega, rfl, rfl, fr_tr hf hfu, ?_⟩
    rw [e2, if_neg q2]; rfl
  · refine hRc (4 - (c + 1)) _ _ _ (by omega) ⟨c + 1, by omega, rfl, rfl, fr_tr hf hfu, ?_⟩
    rw [e2, if_pos q2]
/-- how many bits -/
def cntb (x : Int32) : Nat → Nat
  | 0 => 0
  | k + 1 => cntb x k + (if bt x k then 1 else 0)
theorem cntb_le (x : Int32) : ∀ n, cntb x n ≤ n
  | 0 => Nat.le_refl _
  | k + 1 => by have := cntb_le x k; unfold cntb; split <;> omega
theorem p_ones {σ : St} {x : Int32} {Q : Int32 → St → Prop} (h : Q (nI (cntb x 20)) σ) : m_X9_ones σ x Q := by
  unfold m_X9_ones
  refine lpE2 (m_X9_ones_L4b x Q (fun σ x1 => m_X9_ones_J24 x Q σ x1)) (fun _ => rfl) (fun m τ y z => ∃ k, k ≤ 20 ∧ z = nI k ∧ m = 20 - k ∧ τ = σ ∧ y = nI (cntb x k)) ?_ (n := 20) ⟨0, by omega, rfl, rfl, rfl, rfl⟩
  rintro m τ y z Rc ⟨k, hk, rfl, hm, rfl, rfl⟩ hR
  unfold m_X9_ones_L4b
  rw [show (20 : Int32) = nI 20 from rfl, nI_le' (by omega) (by omega)]
  refine ⟨fun q => ?_, fun q => bI_i ?_⟩
  · have e : k = 20 := by omega
    subst e
    exact h
  · rw [hb_val x (by omega), nI_1]
    refine hR (20 - (k + 1)) _ _ _ (by omega) ⟨k + 1, by omega, rfl, rfl, rfl, ?_⟩
    show _ = nI (cntb x k + (if bt x k then 1 else 0))
    cases bt x k
    · simp
    · rw [if_pos rfl, if_pos rfl, nI_1]
def bcE (a0 : Int32) : Int32 :=
  let y9 := a0 - (((a0.toUInt32 >>> ((1 : Int32).toUInt32 &&& Int32.toUInt32 31)).toInt32) &&& 1431655765)
  let y23 := (y9 &&& 858993459) + (((y9.toUInt32 >>> ((2 : Int32).toUInt32 &&& Int32.toUInt32 31)).toInt32) &&& 858993459)
  let y33 := (y23 + ((y23.toUInt32 >>> ((4 : Int32).toUInt32 &&& Int32.toUInt32 31)).toInt32)) &&& 252645135
  let y40 := y33 + ((y33.toUInt32 >>> ((8 : Int32).toUInt32 &&& Int32.toUInt32 31)).toInt32)
  let y47 := y40 + ((y40.toUInt32 >>> ((16 : Int32).toUInt32 &&& Int32.toUInt32 31)).toInt32)
  y47 &&& 63
theorem bcE_ok : ∀ m, m < 16 → bcE (nI m) = nI (cntb (nI m) 20) := by decide +kernel
theorem q_bitCount {σ : St} {x : Int32} {Q : Int32 → St → Prop} (hx : sm x) (h : Q (nI (cntb x 20)) σ) : m_J6_bitCount_0f7a4 σ x Q := by
  obtain ⟨m, hm, rfl⟩ := sm_nat hx
  rw [← bcE_ok m hm] at h
  exact h
theorem q_flaggedCount {b : Nat} {T : Tr} {σ : St} {lk : Int32} {Q : Int32 → St → Prop} (hR : RowOK b T σ) (hV : Val T) (hl : T.length ≤ 20) (h : Q (nI (cntb (fbt T lk 4) 20)) σ) : m_X1_flaggedCount b σ lk Q := by
  unfold m_X1_flaggedCount
  exact q_flaggedBits hR hV hl (q_bitCount (sm_fbt T lk 4 (by omega)) h)
