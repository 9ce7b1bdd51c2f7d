/-! ===== which touch was not watched ===== -/
def snk (T : Tr) (c e u : Nat → Nat) (k : Nat) : Nat → Bool
  | 0 => tch T k
  | i + 1 => snk T c e u k i && (decide ((wf T (c i) 15 (fun j => decide (j = k)) T.length).1 = e i) == decide (u i = 1))
theorem snk_no {T : Tr} {c e u : Nat → Nat} {k i : Nat} (h : snk T c e u k i = false) : ∀ d, snk T c e u k (i + d) = false
  | 0 => h
  | d + 1 => by show (snk T c e u k (i + d) && _) = false; rw [snk_no h d]; rfl
def SeenF (z : Nat) (c e u : Nat → Nat) (σ : St) : Prop := z ≤ 6 ∧ σ.1 48 0 = nI z ∧ σ.1 61 32 = nI z ∧ ∀ i, i < z → c i < 4 ∧ e i < 4 ∧ u i < 2 ∧ σ.1 49 i = nI (c i) ∧ σ.1 80 i = nI (c i) ∧ σ.1 50 i = nI (e i) ∧ σ.1 81 i = nI (e i) ∧ σ.1 51 i = nI (u i) ∧ σ.1 82 i = nI (u i)
theorem Seen.F {σ : St} (h : Seen σ) : ∃ z c e u, SeenF z c e u σ := by
  obtain ⟨z, hz, s1, s2, hs⟩ := h
  refine ⟨z, fun i => (σ.1 49 i).toNatClampNeg, fun i => (σ.1 50 i).toNatClampNeg, fun i => (σ.1 51 i).toNatClampNeg, hz, s1, s2, fun i hi => ?_⟩
  obtain ⟨c, e, u, h1, h2, h3, q1, q2, q3, q4, q5, q6⟩ := hs i hi
  dsimp only
  rw [q1, q3, q5, nI_cl (by omega), nI_cl (by omega), nI_cl (by omega)]
  exact ⟨h1, h2, h3, rfl, q2, rfl, q4, rfl, q6⟩
theorem i01_u {b : Bool} {u : Nat} (hu : u < 2) : (i01 b = nI u) ↔ (b == decide (u = 1)) = true := by
  have : u = 0 ∨ u = 1 := by omega
  rcases this with rfl | rfl <;> cases b <;> decide
theorem sgl_bt {k : Nat} (hk : k < 20) : bt (bitI k) = fun j => decide (j = k) := by
  funext j
  rcases Nat.lt_or_ge j 32 with h | h
  · exact b_bit (by omega) h
  · rw [b_big h, decide_eq_false (by omega)]
theorem q_fits {b : Nat} {T : Tr} {σ : St} {z : Nat} {c e u : Nat → Nat} {k : Nat} {Q : Int32 → St → Prop} (hR : RowOK b T σ) (hV : Val T) (hl : T.length ≤ 20) (hS : SeenF z c e u σ) (hk : k < T.length) (h : Q (if snk T c e u k z then 1 else 0) σ) : m_X5_fits b σ (nI k) Q := by
  unfold m_X5_fits
  obtain ⟨hz, s1, s2, hs⟩ := hS
  have no : ∀ i, i ≤ z → snk T c e u k i = false → Q 0 σ := by
    intro i hi w
    have := snk_no w (z - i)
    rw [show i + (z - i) = z by omega] at this
    rw [this] at h; exact h
  refine r_isTouch hR hV hl hk ?_
  cases ht : tch T k
  · exact ⟨fun w => absurd rfl w, fun _ => no 0 (by omega) ht⟩
  refine ⟨fun _ => ?_, fun w => absurd w (by decide)⟩
  refine lpE1 (m_X5_fits_L12b b (nI k) Q (fun σ => m_X5_fits_J67 b (nI k) Q σ) (fun σ => m_X5_fits_J75 b (nI k) Q σ)) (fun _ => rfl) (fun m τ x => ∃ i, i ≤ z ∧ x = nI i ∧ m = z - i ∧ τ = σ ∧ snk T c e u k i = true) ?_ (n := z) ⟨0, by omega, rfl, rfl, rfl, ht⟩
  rintro m τ x Rc ⟨i, hi, rfl, hm, rfl, hsn⟩ hRc
  unfold m_X5_fits_L12b
  rw [s1, nI_le' (by omega) (by omega)]
  refine ⟨fun q => ?_, fun q => ⟨vp_n (by omega) (by omega), ?_⟩⟩
  · have e : i = z := by omega
    subst e
    rw [hsn] at h
    exact h
  obtain ⟨h1, h2, h3, q1, q2, q3, q4, q5, q6⟩ := hs i (by omega)
  rw [nI_cl (by omega), q1, hR.1]
  refine q_watch (u := fun j => decide (j = k)) hR hV hl h1 (Nat.le_refl _) (fun j hj => ?_) (fun x hx => ?_)
  · rw [nI_eq' (by omega) (by omega), decide_eq_true_eq]
  unfold m_X1_stateOf
  have st4 := hx.st.2
  dsimp only
  rw [hx.st.1, q3, nI_eq' (by omega) (by omega)]
  have sne : snk T c e u k (i + 1) = (decide ((wf T (c i) 15 (fun j => decide (j = k)) T.length).1 = e i) == decide (u i = 1)) := by
    show (snk T c e u k i && _) = _
    rw [hsn, Bool.true_and]
  have J : ∀ bb : Bool, decide ((wf T (c i) 15 (fun j => decide (j = k)) T.length).1 = e i) = bb → m_X5_fits_J58 b (nI k) Q (fun σ => m_X5_fits_J67 b (nI k) Q σ) (fun σ => m_X5_fits_J75 b (nI k) Q σ) Rc τ (nI i) (i01 bb) := by
    intro bb hbb
    unfold m_X5_fits_J58
    rw [nI_cl (by omega), q5, i01_u h3, nI_1]
    rw [hbb] at sne
    refine ⟨vp_n (by omega) (by omega), fun w => hRc (z - (i + 1)) _ _ (by omega) ⟨i + 1, by omega, rfl, rfl, rfl, by rw [sne]; exact w⟩, fun w => ?_⟩
    exact no (i + 1) (by omega) (by rw [sne]; simpa using w)
  exact ⟨vp_n (by omega) (by omega), fun w => J false (decide_eq_false w), fun w => J true (decide_eq_true w)⟩
def fcs (F : Nat → Bool) : Nat → Nat × Int32
  | 0 => (0, -9)
  | k + 1 => if F k then ((fcs F k).1 + 1, if (fcs F k).1 = 0 then nI k else (fcs F k).2) else fcs F k
theorem fcs_le (F : Nat → Bool) : ∀ k, (fcs F k).1 ≤ k
  | 0 => Nat.le_refl _
  | k + 1 => by have := fcs_le F k; rw [fcs]; split <;> (try dsimp only) <;> omega
theorem fcs_stay (F : Nat → Bool) (k : Nat) (h : (fcs F k).1 ≠ 0) : ∀ d, (fcs F (k + d)).1 ≠ 0 ∧ (fcs F (k + d)).2 = (fcs F k).2
  | 0 => ⟨h, rfl⟩
  | d + 1 => by
    have ih := fcs_stay F k h d
    show (fcs F (k + d + 1)).1 ≠ 0 ∧ (fcs F (k + d + 1)).2 = _
    rw [fcs]
    split
    · exact ⟨Nat.succ_ne_zero _, by dsimp only; rw [if_neg ih.1]; exact ih.2⟩
    · exact ih
abbrev wh (T : Tr) (z : Nat) (c e u : Nat → Nat) : Nat × Int32 := fcs (fun k => snk T c e u k z) T.length
theorem q_fittingCount {b : Nat} {T : Tr} {σ : St} {z : Nat} {c e u : Nat → Nat} {Q : Int32 → St → Prop} (hR : RowOK b T σ) (hV : Val T) (hl : T.length ≤ 20) (hS : SeenF z c e u σ) (h : Q (nI (wh T z c e u).1) σ) : m_X5_fittingCount b σ Q := by
  unfold m_X5_fittingCount
  refine lpE2 (m_X5_fittingCount_L4b b Q (fun σ x2 => m_X5_fittingCount_J30 b Q σ x2)) (fun _ => rfl) (fun m τ x y => ∃ k, k ≤ T.length ∧ y = nI k ∧ m = T.length - k ∧ τ = σ ∧ x = nI (fcs (fun k => snk T c e u k z) k).1) ?_ (n := T.length) ⟨0, by omega, rfl, rfl, rfl, rfl⟩
  rintro m τ x y Rc ⟨k, hk, rfl, hm, rfl, rfl⟩ hRc
  unfold m_X5_fittingCount_L4b
  rw [hR.1, nI_le' (by omega) (by omega)]
  refine ⟨fun q => ?_, fun q => ?_⟩
  · have e : k = T.length := by omega
    subst e
    exact h
  refine q_fits hR hV hl hS (by omega) ?_
  rw [nI_1, nI_1]
  cases w : snk T c e u k z
  · exact ⟨fun _ => hRc (T.length - (k + 1)) _ _ _ (by omega) ⟨k + 1, by omega, rfl, rfl, rfl, by rw [fcs, w]; rfl⟩, fun v => absurd rfl v⟩
  · exact ⟨fun v => absurd v (by decide), fun _ => hRc (T.length - (k + 1)) _ _ _ (by omega) ⟨k + 1, by omega, rfl, rfl, rfl, by rw [fcs, w]; rfl⟩⟩
theorem q_leastFitting {b : Nat} {T : Tr} {σ : St} {z : Nat} {c e u : Nat → Nat} {Q : Int32 → St → Prop} (hR : RowOK b T σ) (hV : Val T) (hl : T.length ≤ 20) (hS : SeenF z c e u σ) (h : Q (wh T z c e u).2 σ) : m_X5_leastFitting b σ Q := by
  unfold m_X5_leastFitting
  refine lpE1 (m_X5_leastFitting_L2b b Q (fun σ x2 => m_X5_leastFitting_J19 b Q σ x2) (fun σ => m_X5_leastFitting_J27 b Q σ)) (fun _ => rfl) (fun m τ y => ∃ k, k ≤ T.length ∧ y = nI k ∧ m = T.length - k ∧ τ = σ ∧ fcs (fun k => snk T c e u k z) k = (0, -9)) ?_ (n := T.length) ⟨0, by omega, rfl, rfl, rfl, rfl⟩
  rintro m τ y Rc ⟨k, hk, rfl, hm, rfl, h0⟩ hRc
  unfold m_X5_leastFitting_L2b
  rw [hR.1, nI_le' (by omega) (by omega)]
  refine ⟨fun q => ?_, fun q => ?_⟩
  · have e : k = T.length := by omega
    subst e
    rw [wh, h0] at h
    exact h
  refine q_fits hR hV hl hS (by omega) ?_
  rw [nI_1]
  cases w : snk T c e u k z
  · exact ⟨fun _ => hRc (T.length - (k + 1)) _ _ (by omega) ⟨k + 1, by omega, rfl, rfl, rfl, by rw [fcs, w]; exact h0⟩, fun v => absurd rfl v⟩
  · refine ⟨fun v => absurd v (by decide), fun _ => ?_⟩
    have e1 : fcs (fun k => snk T c e u k z) (k + 1) = (1, nI k) := by rw [fcs, w, h0]; rfl
    have s := fcs_stay (fun k => snk T c e u k z) (k + 1) (by rw [e1]; exact Nat.succ_ne_zero 0) (T.length - (k + 1))
    rw [show k + 1 + (T.length - (k + 1)) = T.length by omega, e1] at s
    rw [wh, s.2] at h
    exact h
theorem p_which {σ : St} {T : Tr} {z : Nat} {c e u : Nat → Nat} {a : Nat} {Q : Int32 → St → Prop} (hN : NowOK 0 T σ) (hB : Bnd T) (hS : SeenF z c e u σ) (ha : a < 2) (h : ∀ τ, (∀ c i, PF c i = true → τ.1 c i = σ.1 c i) → τ.2 = σ.2 → Q (if a = 0 then nI (wh T z c e u).1 else (wh T z c e u).2) τ) : m_X9_which σ (nI a) Q := by
  unfold m_X9_which
  have hl := hB.1
  refine p_in2 ha ⟨fun _ => ?_, fun w => absurd w (by decide)⟩
  refine p_findHeld (L := 0) hN hB (by omega) (fun σ1 hW hH hf1 => ?_)
  have hN1 := hN.fr hf1 (fun _ => rfl)
  obtain ⟨hz, s1, s2, hs⟩ := hS
  refine lpE3 (m_X9_which_L26b (nI a) Q (fun σ x2 x3 => m_X9_which_J171 (nI a) Q σ x2 x3)) (fun _ => rfl) (fun m τ x y w => ∃ k, k ≤ T.length ∧ w = nI k ∧ m = T.length - k ∧ fr XW σ1 τ ∧ x = nI (fcs (fun k => snk T c e u k z) k).1 ∧ y = (fcs (fun k => snk T c e u k z) k).2) ?_ (n := T.length) ⟨0, by omega, rfl, rfl, fr_rfl, rfl, rfl⟩
  rintro m τ x y w Rc ⟨k, hk, rfl, hm, hf, rfl, rfl⟩ hRc
  unfold m_X9_which_L26b
  refine p_many (L := 0) (hN1.fr hf (fun _ => rfl)) (by omega) ?_
  rw [nI_le' (by omega) (by omega)]
  refine ⟨fun q => ?_, fun q => ?_⟩
  · have e : k = T.length := by omega
    subst e
    have := h τ (fun c i w => (hf.1 c i (XW_keep c i w)).trans (hf1.1 c i (Xh_keep c i w))) (hf.2.trans hf1.2)
    unfold m_X9_which_J171
    rw [show (0 : Int32) = nI 0 from rfl, nI_eq' (by omega) (by omega)]
    refine ⟨fun v => ?_, fun v => ?_⟩
    · rw [if_neg v] at this; exact this
    · rw [if_pos v] at this; exact this
  have hkl : k < T.length := by omega
  have fl := fcs_le (fun k => snk T c e u k z) k
  -- behind the inner loop
  have fin : ∀ (υ : St) (bb : Bool), fr XW σ1 υ → snk T c e u k z = bb → m_X9_which_J136 (nI a) Q (fun σ x2 x3 => m_X9_which_J171 (nI a) Q σ x2 x3) Rc υ (nI (fcs (fun k => snk T c e u k z) k).1) (fcs (fun k => snk T c e u k z) k).2 (nI k) (i01 bb) := by
    intro υ bb hfu hbb
    unfold m_X9_which_J136
    have nx : ∀ v1 v2 : Int32, v1 = nI (fcs (fun k => snk T c e u k z) (k + 1)).1 → v2 = (fcs (fun k => snk T c e u k z) (k + 1)).2 → Rc υ v1 v2 (nI k + 1) := by
      rintro v1 v2 rfl rfl
      rw [nI_1]
      exact hRc (T.length - (k + 1)) _ _ _ _ (by omega) ⟨k + 1, by omega, rfl, rfl, hfu, rfl, rfl⟩
    cases bb
    · refine ⟨fun _ => ?_, fun v => absurd rfl v⟩
      unfold m_X9_which_J150 m_X9_which_J151
      refine ⟨fun _ => bI_i (nx _ _ ?_ ?_), fun v => absurd rfl v⟩
      · rw [fcs, hbb]; exact nI_add _ 0
      · rw [fcs, hbb]; rfl
    · refine ⟨fun v => absurd v (by decide), fun _ => ?_⟩
      rw [show (0 : Int32) = nI 0 from rfl, nI_eq' (by omega) (by omega)]
      refine ⟨fun v => ?_, fun v => ?_⟩
      · unfold m_X9_which_J150 m_X9_which_J151
        refine ⟨fun v => absurd v (by decide), fun _ => bI_i (nx _ _ ?_ ?_)⟩
        · rw [nI_1, fcs, hbb]; rfl
        · rw [fcs, hbb, if_pos rfl]; dsimp only; rw [if_neg v]
      · unfold m_X9_which_J151
        refine ⟨fun v => absurd v (by decide), fun _ => bI_i (nx _ _ ?_ ?_)⟩
        · rw [nI_1, fcs, hbb]; rfl
        · rw [fcs, hbb, if_pos rfl]; dsimp only; rw [if_pos v]
  refine p_isTouch (L := 0) (hN1.fr hf (fun _ => rfl)) hB (by omega) hkl ?_
  refine lpE2 (m_X9_which_L48b (nI a) Q (nI (fcs (fun k => snk T c e u k z) k).1) (fcs (fun k => snk T c e u k z) k).2 (nI k) (fun σ x5 => m_X9_which_J136 (nI a) Q (fun σ x2 x3 => m_X9_which_J171 (nI a) Q σ x2 x3) Rc σ (nI (fcs (fun k => snk T c e u k z) k).1) (fcs (fun k => snk T c e u k z) k).2 (nI k) x5)) (fun _ => rfl) (fun m υ x y => ∃ i, i ≤ z ∧ y = nI i ∧ m = z - i ∧ fr XW σ1 υ ∧ x = i01 (snk T c e u k i)) ?_ (n := z) ⟨0, by omega, rfl, rfl, hf, rfl⟩
  rintro m2 υ x y Rc2 ⟨i, hi, rfl, hm2, hfu, rfl⟩ hRc2
  unfold m_X9_which_L48b
  have P : ∀ c i, PF c i = true → υ.1 c i = σ.1 c i := fun c i w => (hfu.1 c i (XW_keep c i w)).trans (hf1.1 c i (Xh_keep c i w))
  rw [P 61 32 rfl, s2, nI_le' (by omega) (by omega)]
  refine ⟨fun q2 => ?_, fun q2 => ?_⟩
  · have e : i = z := by omega
    subst e
    exact fin υ _ hfu rfl
  cases hsn : snk T c e u k i
  · refine ⟨fun _ => ?_, fun v => absurd rfl v⟩
    have := snk_no hsn (z - i)
    rw [show i + (z - i) = z by omega] at this
    exact fin υ false hfu this
  refine ⟨fun v => absurd v (by decide), fun _ => ⟨vp_n (by omega) (by omega), ?_⟩⟩
  obtain ⟨h1, h2, h3, q1, q2', q3, q4, q5, q6⟩ := hs i (by omega)
  have hNu := hN1.fr hfu (fun _ => rfl)
  refine p_many (L := 0) hNu (by omega) ?_
  rw [nI_cl (by omega), P 80 i rfl, q2']
  refine p_watchCell (L := 0) (un := bitI k) hNu hB (hH.fr hfu (fun _ => rfl) (fun _ => rfl)) (by omega) h1 (Nat.le_refl _) (fun ω hWc hfw => ⟨vp_n (by omega) (by omega), ?_⟩)
  have hfo := fr_tr hfu hfw
  have P2 : ∀ c i, PF c i = true → ω.1 c i = σ.1 c i := fun c i w => (hfo.1 c i (XW_keep c i w)).trans (hf1.1 c i (Xh_keep c i w))
  rw [sgl_bt (by omega)] at hWc
  have st4 := (wf_small T (c i) 15 (fun j => decide (j = k)) T.length).1
  rw [hWc.1, P2 81 i rfl, q4, nI_eq' (by omega) (by omega)]
  have sne : snk T c e u k (i + 1) = (decide ((wf T (c i) 15 (fun j => decide (j = k)) T.length).1 = e i) == decide (u i = 1)) := by
    show (snk T c e u k i && _) = _
    rw [hsn, Bool.true_and]
  have J : ∀ bb : Bool, decide ((wf T (c i) 15 (fun j => decide (j = k)) T.length).1 = e i) = bb → m_X9_which_J104 (nI a) Q (nI (fcs (fun k => snk T c e u k z) k).1) (fcs (fun k => snk T c e u k z) k).2 (nI k) (fun σ x5 => m_X9_which_J136 (nI a) Q (fun σ x2 x3 => m_X9_which_J171 (nI a) Q σ x2 x3) Rc σ (nI (fcs (fun k => snk T c e u k z) k).1) (fcs (fun k => snk T c e u k z) k).2 (nI k) x5) Rc2 ω (nI i) (i01 bb) := by
    intro bb hbb
    rw [hbb] at sne
    have nx : ∀ v : Int32, v = i01 (snk T c e u k (i + 1)) → Rc2 ω v (nI i + 1) := by
      rintro v rfl
      rw [nI_1]
      exact hRc2 (z - (i + 1)) _ _ _ (by omega) ⟨i + 1, by omega, rfl, rfl, hfo, rfl⟩
    unfold m_X9_which_J104
    rw [nI_cl (by omega), P2 82 i rfl, q6, show (1 : Int32) = nI 1 from rfl, nI_eq' (by omega) (by omega)]
    refine ⟨vp_n (by omega) (by omega), fun v => ?_, fun v => ?_⟩
    · rw [decide_eq_false v] at sne
      unfold m_X9_which_J120
      cases bb
      · exact ⟨fun w => absurd rfl w, fun _ => nx _ (by rw [sne]; rfl)⟩
      · exact ⟨fun _ => nx _ (by rw [sne]; rfl), fun w => absurd w (by decide)⟩
    · rw [decide_eq_true v] at sne
      unfold m_X9_which_J120
      cases bb
      · exact ⟨fun _ => nx _ (by rw [sne]; rfl), fun w => absurd w (by decide)⟩
      · exact ⟨fun w => absurd rfl w, fun _ => nx _ (by rw [sne]; rfl)⟩
  exact ⟨fun w => J false (decide_eq_false w), fun w => J true (decide_eq_true w)⟩
theorem k_which {σ : St} (h : Inv σ) (a : Int32) : m_X8_which σ a (fun r σ1 => m_X9_which σ1 a (fun r2 σ2 => r = r2 ∧ Inv σ2)) := by
  obtain ⟨X, n, T, B, nx, hI⟩ := h
  have hI0 : Inv σ := ⟨X, n, T, B, nx, hI⟩
  obtain ⟨i1, i2, i3, i4, i5, i6, i7, i8, i9, i10, i11⟩ := id hI
  obtain ⟨z, c, e, u, hS⟩ := i10.F
  have hB := i5.bnd i6
  unfold m_X8_which
  have II : ∀ τ : St, (∀ c i, PF c i = true → τ.1 c i = σ.1 c i) → τ.2 = σ.2 → Inv τ := fun τ w1 w2 => ⟨X, n, T, B, nx, hI.keep ⟨w1, by rw [w2], by rw [w2]⟩⟩
  refine ⟨fun q => ?_, fun q => ?_, fun q => ?_⟩
  · subst q
    refine q_fittingCount i3 i5 i6 hS ?_
    exact p_which (a := 0) i4 hB hS (by omega) (fun τ w1 w2 => ⟨rfl, II τ w1 w2⟩)
  · subst q
    refine q_leastFitting i3 i5 i6 hS ?_
    exact p_which (a := 1) i4 hB hS (by omega) (fun τ w1 w2 => ⟨rfl, II τ w1 w2⟩)
  · unfold m_X9_which
    rcases arg2 a with ⟨k, hk, rfl⟩ | ⟨hb1, hb2⟩
    · exfalso
      have : k = 0 ∨ k = 1 := by omega
      rcases this with rfl | rfl
      · exact q.1 rfl
      · exact q.2 rfl
    · exact p_in2n hb2 ⟨fun z => absurd rfl z, fun _ => ⟨rfl, hI0⟩⟩
