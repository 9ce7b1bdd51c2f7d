/-! ===== rings: the reference's loops; rings, first ===== -/
theorem fr30_keep {X : Nat → Nat → Bool} {σ τ : St} (h : fr30 X σ τ) (hX : ∀ c i, PF c i = true → X c i = false) : Keep σ τ := ⟨fun c i q => h.1 c i (hX c i q), h.2 0 9 (by omega), h.2 61 36 (by omega)⟩
theorem rsK {s : RS} {σ : St} {d : Nat} {v : Int32} (h : RSM s σ) : RSM s (sI σ 74 d v) := by
  refine ⟨fun m hm => ?_, h.2⟩
  rw [sI_out (a := 75) _ _ (by omega), sI_out (a := 76) _ _ (by omega), sI_out (a := 77) _ _ (by omega), sI_out (a := 78) _ _ (by omega)]
  exact h.1 m hm
theorem cgP {ch : List Nat} {σ : St} {i : Nat} (h : ∀ j, j < ch.length → σ.1 74 j = nI (cg ch j)) : ∀ j, j < ch.length + 1 → (sI σ 74 ch.length (nI i)).1 74 j = nI (cg (ch ++ [i]) j) := by
  intro j hj
  by_cases e : j = ch.length
  · subst e; rw [sI_in, cg_last]
  · rw [sI_out _ _ (by omega), h j (by omega), cg_app ch i (by omega)]
theorem gon_lt {T : Tr} {ch : List Nat} {i : Nat} (h : gon T ch i = true) : cg ch 0 < i := by
  rw [gon, Bool.and_eq_true, decide_eq_true_eq] at h; exact h.1
theorem hxP {T : Tr} {ch : List Nat} {i : Nat} (h : ∀ x, x ∈ ch → x < (EL T).length) (hi : i < (EL T).length) : ∀ x, x ∈ ch ++ [i] → x < (EL T).length := by
  intro x hx
  rw [List.mem_append, List.mem_singleton] at hx
  rcases hx with hx | rfl
  · exact h x hx
  · exact hi
theorem hmP {ch : List Nat} {i : Nat} (hne : ch ≠ []) (h : ∀ x, x ∈ ch → cg ch 0 ≤ x) (hi : cg ch 0 < i) : ∀ x, x ∈ ch ++ [i] → cg (ch ++ [i]) 0 ≤ x := by
  intro x hx
  rw [cg_app0 _ _ hne]
  rw [List.mem_append, List.mem_singleton] at hx
  rcases hx with hx | rfl
  · exact h x hx
  · omega
theorem lenP (ch : List Nat) (i : Nat) : (ch ++ [i]).length = ch.length + 1 := by rw [List.length_append]; rfl
abbrev gstp (T : Tr) (f : Nat) (ch : List Nat) : Nat → RS → RS := fun i s => if gon T ch i then gr T f (ch ++ [i]) (if lk T i (cg ch 0) then tak T (ch ++ [i]) s else s) else s
theorem gr_s (T : Tr) (f : Nat) (ch : List Nat) (s : RS) : gr T (f + 1) ch s = fldN (gstp T f ch) (EL T).length s := rfl
theorem gstp_no {T : Tr} {f : Nat} {ch : List Nat} {i : Nat} {s : RS} (h : gon T ch i = false) : gstp T f ch i s = s := by unfold gstp; rw [h]; rfl
theorem gstp_yes {T : Tr} {f : Nat} {ch : List Nat} {i : Nat} {s : RS} (h : gon T ch i = true) (hne : ch ≠ []) : gstp T f ch i s = gr T f (ch ++ [i]) (if lk T (cl (ch ++ [i])) (cg (ch ++ [i]) 0) then tak T (ch ++ [i]) s else s) := by
  unfold gstp; rw [h, if_pos rfl, cl_app, cg_app0 _ _ hne]
theorem p_loop3 {L : Nat} {T : Tr} {σ : St} {ch : List Nat} {s : RS} {Q K : St → Prop} {x1 : Int32} (hC : RgM L T σ) (hB : Bnd T) (hL : L < 2) (hn : ch.length = 3) (hx : ∀ x, x ∈ ch → x < (EL T).length) (hmin : ∀ x, x ∈ ch → cg ch 0 ≤ x) (h74 : ∀ j, j < ch.length → σ.1 74 j = nI (cg ch j)) (hs : RSM s σ) (h : ∀ τ, RSM (gr T 1 ch s) τ → fr30 (Xk 3) σ τ → K τ) : ∃ f, m_X9_findLonger_L33 Q x1 K f σ 0 := by
  have hl := hB.1
  have ell : (EL T).length ≤ 4 * T.length := el_len T T.length
  have hne : ch ≠ [] := by intro e; rw [e] at hn; cases hn
  rw [gr_s] at h
  refine lpE1 (m_X9_findLonger_L33b Q x1 K) (fun _ => rfl) (fun m τ x => ∃ i, i ≤ (EL T).length ∧ x = nI i ∧ m = (EL T).length - i ∧ RSM (fldN (gstp T 0 ch) i s) τ ∧ fr30 (Xk 3) σ τ) ?_ (n := (EL T).length) ⟨0, by omega, rfl, rfl, hs, fr30_rfl⟩
  rintro m τ x Rc ⟨i, hi, rfl, hm, hst, hf⟩ hRc
  unfold m_X9_findLonger_L33b
  have hCt := rgK hC hf
  have h74t : ∀ j, j < ch.length → τ.1 74 j = nI (cg ch j) := fun j hj => (hf.1 74 j (Xk_74 (by omega))).trans (h74 j hj)
  rw [hCt.2.2.2.1.1, nI_le' (by omega) (by omega)]
  refine ⟨fun q => ?_, fun q => ?_⟩
  · have e : i = (EL T).length := by omega
    subst e
    exact h τ hst hf
  have hin : i < (EL T).length := by omega
  rw [nI_1]
  have e3 : (3 : Int32) = nI ch.length := by rw [hn]; rfl
  have e3' : (3 : Int32).toNatClampNeg = ch.length := by rw [hn]; rfl
  rw [e3', e3]
  refine p_goesOn hCt hB hL (by omega) (by omega) hx h74t hin ?_
  cases hg : gon T ch i
  · refine ⟨fun _ => hRc ((EL T).length - (i + 1)) _ _ (by omega) ⟨i + 1, by omega, rfl, rfl, ?_, hf⟩, fun z => absurd rfl z⟩
    rw [fldN, gstp_no hg]; exact hst
  · refine ⟨fun z => absurd z (by decide), fun _ => ⟨vp_n (by omega) (by omega), ?_⟩⟩
    unfold sIB
    have hf2 : fr30 (Xk 3) σ (sI τ 74 ch.length (nI i)) := fr30_sI hf _ (Xk_74' (by omega))
    refine p_close (ch := ch ++ [i]) (n := 4) (rgK hC hf2) hB hL (by rw [lenP, hn]) (by omega) (by omega) (hxP hx hin) (hmP hne hmin (gon_lt hg)) (fun j hj => cgP h74t j (by omega)) (rsK hst) (fun υ k1 k2 => ?_)
    refine hRc ((EL T).length - (i + 1)) _ _ (by omega) ⟨i + 1, by omega, rfl, rfl, ?_, fr30_tr hf2 (fr30_mono k2 (Xk_mono (by omega)))⟩
    rw [fldN, gstp_yes hg hne]; exact k1
theorem p_findLonger {L : Nat} {T : Tr} {σ : St} {ch : List Nat} {s : RS} {Q : St → Prop} (hC : RgM L T σ) (hB : Bnd T) (hL : L < 2) (hn : ch.length = 2) (hx : ∀ x, x ∈ ch → x < (EL T).length) (hmin : ∀ x, x ∈ ch → cg ch 0 ≤ x) (h74 : ∀ j, j < ch.length → σ.1 74 j = nI (cg ch j)) (hs : RSM s σ) (h : ∀ τ, RSM (gr T 2 ch s) τ → fr30 (Xk 2) σ τ → Q τ) : m_X9_findLonger σ Q := by
  have hl := hB.1
  have ell : (EL T).length ≤ 4 * T.length := el_len T T.length
  have hne : ch ≠ [] := by intro e; rw [e] at hn; cases hn
  rw [gr_s] at h
  unfold m_X9_findLonger
  refine lpE1 (m_X9_findLonger_L2b Q (fun σ => m_X9_findLonger_J74 Q σ)) (fun _ => rfl) (fun m τ x => ∃ i, i ≤ (EL T).length ∧ x = nI i ∧ m = (EL T).length - i ∧ RSM (fldN (gstp T 1 ch) i s) τ ∧ fr30 (Xk 2) σ τ) ?_ (n := (EL T).length) ⟨0, by omega, rfl, rfl, hs, fr30_rfl⟩
  rintro m τ x Rc ⟨i, hi, rfl, hm, hst, hf⟩ hRc
  unfold m_X9_findLonger_L2b
  have hCt := rgK hC hf
  have h74t : ∀ j, j < ch.length → τ.1 74 j = nI (cg ch j) := fun j hj => (hf.1 74 j (Xk_74 (by omega))).trans (h74 j hj)
  rw [hCt.2.2.2.1.1, nI_le' (by omega) (by omega)]
  refine ⟨fun q => ?_, fun q => ?_⟩
  · have e : i = (EL T).length := by omega
    subst e
    exact h τ hst hf
  have hin : i < (EL T).length := by omega
  have e3 : (2 : Int32) = nI ch.length := by rw [hn]; rfl
  have e3' : (2 : Int32).toNatClampNeg = ch.length := by rw [hn]; rfl
  rw [e3', e3]
  refine p_goesOn hCt hB hL (by omega) (by omega) hx h74t hin ?_
  cases hg : gon T ch i
  · refine ⟨fun _ => ?_, fun z => absurd rfl z⟩
    rw [nI_1]
    refine hRc ((EL T).length - (i + 1)) _ _ (by omega) ⟨i + 1, by omega, rfl, rfl, ?_, hf⟩
    rw [fldN, gstp_no hg]; exact hst
  · refine ⟨fun z => absurd z (by decide), fun _ => ⟨vp_n (by omega) (by omega), ?_⟩⟩
    unfold sIB
    have hf2 : fr30 (Xk 2) σ (sI τ 74 ch.length (nI i)) := fr30_sI hf _ (Xk_74' (by omega))
    have hla : (ch ++ [i]).length = 3 := by rw [lenP, hn]
    have hxa := hxP hx hin
    have hma := hmP hne hmin (gon_lt hg)
    refine p_close (ch := ch ++ [i]) (n := 3) (rgK hC hf2) hB hL hla (by omega) (by omega) hxa hma (fun j hj => cgP h74t j (by omega)) (rsK hst) (fun υ k1 k2 => ?_)
    have hf3 : fr30 (Xk 2) σ υ := fr30_tr hf2 (fr30_mono k2 (Xk_mono (by omega)))
    refine p_loop3 (ch := ch ++ [i]) (rgK hC hf3) hB hL hla hxa hma (fun j hj => (k2.1 74 j (Xk_74 (by omega))).trans (cgP h74t j (by omega))) k1 (fun ω k3 k4 => ?_)
    show Rc ω (nI i + 1)
    rw [nI_1]
    refine hRc ((EL T).length - (i + 1)) _ _ (by omega) ⟨i + 1, by omega, rfl, rfl, ?_, fr30_tr hf3 (fr30_mono k4 (Xk_mono (by omega)))⟩
    rw [fldN, gstp_yes hg hne]; exact k3
theorem fld_low {T : Tr} {a : Nat} (s : RS) : fldN (gstp T 2 [a]) (a + 1) s = s := by
  refine fldN_id s (fun i hi s => gstp_no ?_)
  rw [gon, decide_eq_false (by show ¬ a < i; omega)]; rfl
def XfM (c i : Nat) : Bool := Xh c i || X70 c i || XeM c i || (c == 61 && i == 24) || (decide (74 ≤ c) && decide (c ≤ 78))
theorem XfM_keep : ∀ c i, PF c i = true → XfM c i = false := by
  intro c i h
  simp only [PF, XfM, Xh, X70, XeM, Bool.or_eq_true, Bool.and_eq_true, beq_iff_eq, decide_eq_true_eq, Bool.or_eq_false_iff, Bool.and_eq_false_iff, beq_eq_false_iff_ne, decide_eq_false_iff_not] at h ⊢
  omega
theorem Xk_f : ∀ c i, XfM c i = false → Xk 0 c i = false := by
  intro c i h
  simp only [XfM, Xk, Bool.or_eq_false_iff, Bool.and_eq_false_iff, decide_eq_false_iff_not, beq_eq_false_iff_ne] at h ⊢
  omega
theorem p_findRings {L : Nat} {T : Tr} {σ : St} {Q : St → Prop} (hN : NowOK L T σ) (hB : Bnd T) (hL : L < 2) (h : ∀ τ, RSM (RgR T) τ → RgM L T τ → fr30 XfM σ τ → Q τ) : m_X9_findRings σ (nI L) Q := by
  unfold m_X9_findRings
  have hl := hB.1
  have ell : (EL T).length ≤ 4 * T.length := el_len T T.length
  refine p_findHeld hN hB hL (fun σ1 hW hH1 hf1 => ?_)
  have hN1 := hN.fr hf1 (fun _ => rfl)
  refine p_findBefore hN1 hB hL (fun σ2 hb2 hf2 => ?_)
  have hN2 := hN1.fr hf2 (fun _ => rfl)
  have hH2 := hH1.fr hf2 (fun _ => rfl) (fun _ => rfl)
  refine p_findEdges hN2 hB hH2 hL (fun σ3 hE3 hf3 => ?_)
  have hN3 := hN2.fr hf3 (fun _ => rfl)
  have hH3 := hH2.fr hf3 (fun _ => rfl) (fun _ => rfl)
  have hb3 : ∀ k, k < T.length → σ3.1 70 k = bf T k := fun k hk => (hf3.1 70 k rfl).trans (hb2 k hk)
  unfold sIB sLB
  dsimp only
  have F3 : fr30 XfM σ σ3 := by
    refine fr30_of (fr_tr (fr_tr (fr_mono hf1 ?_) (fr_mono hf2 ?_)) (fr_mono hf3 ?_))
    all_goals
      intro c i w
      simp only [XfM, Bool.or_eq_false_iff] at w
    · exact w.1.1.1.1
    · exact w.1.1.1.2
    · exact w.1.1.2
  have F5 : fr30 XfM σ (sL (sI σ3 61 24 (nI L)) 61 30 (-9)) := fr30_sL (fr30_sI F3 _ rfl) _
  have hC5 : RgM L T (sL (sI σ3 61 24 (nI L)) 61 30 (-9)) := by
    have g : fr (fun c i => c == 61 && i == 24) σ3 (sI σ3 61 24 (nI L)) := fr_sI fr_rfl _ rfl
    have hC4 : RgM L T (sI σ3 61 24 (nI L)) := ⟨hN3.fr g (fun _ => rfl), hH3.fr g (fun _ => rfl) (fun _ => rfl), fun k hk => (g.1 70 k rfl).trans (hb3 k hk), EdS.fr hE3 g rfl (fun _ => rfl) (fun _ => rfl) (fun _ => rfl), sI_in _ _ _ _⟩
    exact hC4
  have hl30 : (sL (sI σ3 61 24 (nI L)) 61 30 (-9)).2 61 30 = -9 := by rw [sL_get, if_pos ⟨rfl, rfl⟩]
  generalize sL (sI σ3 61 24 (nI L)) 61 30 (-9) = w at *
  refine lpE1 (m_X9_findRings_L29b (nI L) Q (fun σ => m_X9_findRings_J68 (nI L) Q σ)) (fun _ => rfl) (fun m τ x => ∃ n, n ≤ 5 ∧ x = nI n ∧ m = 5 - n ∧ fr30 (Xk 0) w τ ∧ τ.2 61 30 = -9 ∧ ∀ j, j < n → τ.1 75 j = 0 ∧ τ.1 76 j = 0 ∧ τ.1 77 j = 0 ∧ τ.1 78 j = 0) ?_ (n := 5) ⟨0, by omega, rfl, rfl, fr30_rfl, hl30, fun j q => by omega⟩
  rintro m τ x Rc ⟨n, hn, rfl, hm, hf, h30, hj⟩ hRc
  unfold m_X9_findRings_L29b
  rw [show (5 : Int32) = nI 5 from rfl, nI_le' (by omega) (by omega)]
  refine ⟨fun q => ?_, fun q => ⟨vp_n (by omega) (by omega), ?_⟩⟩
  rotate_left
  · unfold sIB
    refine ⟨vp_n (by omega) (by omega), vp_n (by omega) (by omega), vp_n (by omega) (by omega), ?_⟩
    rw [nI_cl (by omega), nI_1]
    refine hRc (5 - (n + 1)) _ _ (by omega) ⟨n + 1, by omega, rfl, rfl, fr30_sI (fr30_sI (fr30_sI (fr30_sI hf _ rfl) _ rfl) _ rfl) _ rfl, h30, fun j hj2 => ?_⟩
    by_cases e : j = n
    · subst e
      refine ⟨?_, ?_, ?_, ?_⟩
      · rw [sI_out _ _ (by omega), sI_out _ _ (by omega), sI_out _ _ (by omega), sI_in]
      · rw [sI_out _ _ (by omega), sI_out _ _ (by omega), sI_in]
      · rw [sI_out _ _ (by omega), sI_in]
      · rw [sI_in]
    · have J := hj j (by omega)
      refine ⟨?_, ?_, ?_, ?_⟩
      · rw [sI_out _ _ (by omega), sI_out _ _ (by omega), sI_out _ _ (by omega), sI_out _ _ (by omega)]; exact J.1
      · rw [sI_out _ _ (by omega), sI_out _ _ (by omega), sI_out _ _ (by omega), sI_out _ _ (by omega)]; exact J.2.1
      · rw [sI_out _ _ (by omega), sI_out _ _ (by omega), sI_out _ _ (by omega), sI_out _ _ (by omega)]; exact J.2.2.1
      · rw [sI_out _ _ (by omega), sI_out _ _ (by omega), sI_out _ _ (by omega), sI_out _ _ (by omega)]; exact J.2.2.2
  have e5 : n = 5 := by omega
  subst e5
  have hs0 : RSM rs0 τ := ⟨fun m hm => ⟨(hj m hm).1, (hj m hm).2.1, (hj m hm).2.2.1, (hj m hm).2.2.2⟩, h30.trans (by decide)⟩
  unfold m_X9_findRings_J68
  have hC6 := rgK hC5 hf
  have F6 : fr30 XfM σ τ := fr30_tr F5 (fr30_mono hf Xk_f)
  clear hRc
  refine lpE1 (m_X9_findRings_L70b (nI L) Q (fun σ => m_X9_findRings_J134 (nI L) Q σ)) (fun _ => rfl) (fun m υ x => ∃ a, a ≤ (EL T).length ∧ x = nI a ∧ m = (EL T).length - a ∧ RSM (fldN (fun a s => gr T 3 [a] s) a rs0) υ ∧ fr30 (Xk 0) τ υ) ?_ (n := (EL T).length) ⟨0, by omega, rfl, rfl, hs0, fr30_rfl⟩
  rintro m2 υ x Rc2 ⟨a, ha, rfl, hm2, hst, hf7⟩ hRc2
  unfold m_X9_findRings_L70b
  have hC7 := rgK hC6 hf7
  rw [hC7.2.2.2.1.1, nI_le' (by omega) (by omega)]
  refine ⟨fun q => ?_, fun q => bI_i ?_⟩
  · have e : a = (EL T).length := by omega
    subst e
    exact h υ hst hC7 (fr30_tr F6 (fr30_mono hf7 Xk_f))
  have han : a < (EL T).length := by omega
  rw [nI_1]
  refine lpE1 (m_X9_findRings_L82b (nI L) Q (nI a) (fun σ => m_X9_findRings_J128 (nI L) Q (fun σ => m_X9_findRings_J134 (nI L) Q σ) Rc2 σ (nI a))) (fun _ => rfl) (fun m ω x => ∃ i, a + 1 ≤ i ∧ i ≤ (EL T).length ∧ x = nI i ∧ m = (EL T).length - i ∧ RSM (fldN (gstp T 2 [a]) i (fldN (fun a s => gr T 3 [a] s) a rs0)) ω ∧ fr30 (Xk 0) τ ω) ?_ (n := (EL T).length - (a + 1)) ⟨a + 1, by omega, by omega, rfl, rfl, by rw [fld_low]; exact hst, hf7⟩
  rintro m3 ω x Rc3 ⟨i, hai, hi, rfl, hm3, hst3, hf8⟩ hRc3
  unfold m_X9_findRings_L82b
  have hC8 := rgK hC6 hf8
  rw [hC8.2.2.2.1.1, nI_le' (by omega) (by omega)]
  refine ⟨fun q2 => ?_, fun q2 => ⟨vp_n (n := 0) (by omega) (by omega), ?_⟩⟩
  · have e : i = (EL T).length := by omega
    subst e
    show Rc2 ω (nI a + 1)
    rw [nI_1]
    exact hRc2 ((EL T).length - (a + 1)) _ _ (by omega) ⟨a + 1, by omega, rfl, rfl, hst3, hf8⟩
  have hin : i < (EL T).length := by omega
  unfold sIB
  rw [cl0, cl1]
  have hf9 : fr30 (Xk 0) τ (sI ω 74 0 (nI a)) := fr30_sI hf8 _ rfl
  have hxa : ∀ x, x ∈ [a] → x < (EL T).length := fun x hx => by rw [List.mem_singleton] at hx; subst hx; exact han
  have hma : ∀ x, x ∈ [a] → cg [a] 0 ≤ x := fun x hx => by rw [List.mem_singleton] at hx; subst hx; exact Nat.le_refl _
  have h74a : ∀ j, j < ([a] : List Nat).length → (sI ω 74 0 (nI a)).1 74 j = nI (cg [a] j) := by
    intro j hj
    have e : j = 0 := by have : j < 1 := hj; omega
    subst e; rw [sI_in]; rfl
  refine p_goesOn (ch := [a]) (rgK hC6 hf9) hB hL (show 0 < 1 by omega) (show 1 ≤ 4 by omega) hxa h74a hin ?_
  cases hg : gon T [a] i
  · refine ⟨fun _ => ?_, fun z => absurd rfl z⟩
    rw [nI_1]
    refine hRc3 ((EL T).length - (i + 1)) _ _ (by omega) ⟨i + 1, by omega, by omega, rfl, rfl, ?_, hf9⟩
    rw [fldN, gstp_no hg]; exact rsK hst3
  · refine ⟨fun z => absurd z (by decide), fun _ => ⟨vp_n (n := 1) (by omega) (by omega), ?_⟩⟩
    have hf10 : fr30 (Xk 0) τ (sI (sI ω 74 0 (nI a)) 74 1 (nI i)) := fr30_sI hf9 _ rfl
    have hxb := hxP hxa hin
    have hmb := hmP (ch := [a]) (by simp) hma (gon_lt hg)
    have h74b := cgP (i := i) h74a
    refine p_close (ch := [a] ++ [i]) (n := 2) (rgK hC6 hf10) hB hL rfl (by omega) (by omega) hxb hmb (fun j hj => h74b j hj) (rsK (rsK hst3)) (fun α k1 k2 => ?_)
    have hf11 : fr30 (Xk 0) τ α := fr30_tr hf10 (fr30_mono k2 (Xk_mono (by omega)))
    refine p_findLonger (ch := [a] ++ [i]) (rgK hC6 hf11) hB hL rfl hxb hmb (fun j hj => (k2.1 74 j (Xk_74 (Nat.lt_trans hj (show 2 < 4 by omega)))).trans (h74b j hj)) k1 (fun β k3 k4 => ?_)
    rw [nI_1]
    refine hRc3 ((EL T).length - (i + 1)) _ _ (by omega) ⟨i + 1, by omega, by omega, rfl, rfl, ?_, fr30_tr hf11 (fr30_mono k4 (Xk_mono (by omega)))⟩
    rw [fldN, gstp_yes hg (by simp)]; exact k3
theorem k_first {σ : St} (h : Inv σ) : m_X8_first σ (fun r σ1 => m_X9_first σ1 (fun r2 σ2 => r = r2 ∧ Inv σ2)) := by
  obtain ⟨X, n, T, B, nx, hI⟩ := h
  obtain ⟨i1, i2, i3, i4, i5, i6, i7, i8, i9, i10, i11⟩ := id hI
  unfold m_X8_first
  refine q_find (by omega) i3 i5 i6 (fun σ1 hs1 hf1 => ?_)
  have hI1 := hI.keep (hf1.keep XfC_keep)
  unfold m_X9_first
  refine p_findRings (L := 0) hI1.2.2.2.1 (i5.bnd i6) (by omega) (fun σ2 hs2 _ hf2 => ⟨?_, X, n, T, B, nx, hI1.keep (fr30_keep hf2 XfM_keep)⟩)
  rw [hs1.2, hs2.2, RC_RM i5, lg_l2i_i2l]
theorem arg24 (x : Int32) : (∃ k, 2 ≤ k ∧ k ≤ 4 ∧ x = nI k) ∨ ((x < 2 ∨ 4 < x) ∧ ¬ ((2 : Int64) ≤ x.toInt64 ∧ x.toInt64 ≤ 4)) := by
  rw [show (2 : Int64) = (nI 2).toInt64 by decide, show (4 : Int64) = (nI 4).toInt64 by decide, i64_le, i64_le]
  rcases arg_n x (n := 5) (by omega) with ⟨k, hk, rfl⟩ | q | q
  · rcases Nat.lt_or_ge k 2 with w | w
    · right
      refine ⟨Or.inl ?_, fun z => ?_⟩
      · rw [show (2 : Int32) = nI 2 from rfl, nI_lt' (by omega) (by omega)]; exact w
      · have := z.1; rw [nI_le' (by omega) (by omega)] at this; omega
    · exact Or.inl ⟨k, w, by omega, rfl⟩
  · right
    have e2 : (2 : Int32).toInt = 2 := by decide
    have e0 : (0 : Int32).toInt = 0 := by decide
    have e2' : (nI 2).toInt = 2 := by decide
    rw [Int32.lt_iff_toInt_lt] at q
    refine ⟨Or.inl ?_, fun z => ?_⟩
    · rw [Int32.lt_iff_toInt_lt]; omega
    · have := z.1; rw [Int32.le_iff_toInt_le] at this; omega
  · right
    have e4 : (4 : Int32).toInt = 4 := by decide
    have e4' : (nI 4).toInt = 4 := by decide
    have e5 : (nI 5).toInt = 5 := by decide
    rw [Int32.le_iff_toInt_le] at q
    refine ⟨Or.inr ?_, fun z => ?_⟩
    · rw [Int32.lt_iff_toInt_lt]; omega
    · have := z.2; rw [Int32.le_iff_toInt_le] at this; omega
theorem k_rings {σ : St} (h : Inv σ) (a b : Int32) : m_X8_rings σ a b (fun r σ1 => m_X9_rings σ1 a b (fun r2 σ2 => r = r2 ∧ Inv σ2)) := by
  obtain ⟨X, n, T, B, nx, hI⟩ := h
  have hI0 : Inv σ := ⟨X, n, T, B, nx, hI⟩
  obtain ⟨i1, i2, i3, i4, i5, i6, i7, i8, i9, i10, i11⟩ := id hI
  unfold m_X8_rings
  have noA : ∀ r : Int32, ¬ ((2 : Int64) ≤ a.toInt64 ∧ a.toInt64 ≤ 4) → r = -2 → m_X9_rings σ a b (fun r2 σ2 => r = r2 ∧ Inv σ2) := by
    rintro r hno rfl
    unfold m_X9_rings
    exact p_in (fun h1 h2 => absurd ⟨h1, h2⟩ hno) (fun _ => ⟨fun _ => ⟨rfl, hI0⟩, fun z => absurd rfl z⟩)
  rcases arg24 a with ⟨k, hk2, hk4, rfl⟩ | ⟨hb1, hb2⟩
  rotate_left
  · refine ⟨fun _ => noA _ hb2 rfl, fun q => ⟨fun _ => noA _ hb2 rfl, fun q2 => ?_⟩⟩
    rcases hb1 with w | w
    · exact absurd w q
    · exact absurd w q2
  have in24 : (2 : Int64) ≤ (nI k).toInt64 ∧ (nI k).toInt64 ≤ 4 := by
    rw [show (2 : Int64) = (nI 2).toInt64 by decide, show (4 : Int64) = (nI 4).toInt64 by decide, i64_le, i64_le, nI_le' (by omega) (by omega), nI_le' (by omega) (by omega)]
    exact ⟨hk2, hk4⟩
  rw [show (2 : Int32) = nI 2 from rfl, nI_lt' (by omega) (by omega), show (4 : Int32) = nI 4 from rfl, nI_lt' (by omega) (by omega)]
  refine ⟨fun z => by omega, fun _ => ⟨fun z => by omega, fun _ => ?_⟩⟩
  have noB : ∀ r : Int32, ¬ (0 ≤ b ∧ b ≤ 3) → r = -2 → m_X9_rings σ (nI k) b (fun r2 σ2 => r = r2 ∧ Inv σ2) := by
    rintro r hno rfl
    unfold m_X9_rings
    refine p_in (fun _ _ => ⟨fun z => absurd z (by decide), fun _ => ?_⟩) (fun z => absurd in24 z)
    exact p_in4n hno ⟨fun z => absurd rfl z, fun _ => ⟨rfl, hI0⟩⟩
  rcases arg4 b with ⟨w, hw4, rfl⟩ | hb
  rotate_left
  · refine ⟨fun _ => noB _ hb rfl, fun q => ⟨fun q2 => ?_, fun _ => noB _ hb rfl⟩⟩
    exfalso
    apply hb
    rw [Int32.lt_iff_toInt_lt] at q q2
    rw [Int32.le_iff_toInt_le, Int32.le_iff_toInt_le]
    have e4 : (nI 4).toInt = 4 := by decide
    have e3 : (3 : Int32).toInt = 3 := by decide
    have e0 : (0 : Int32).toInt = 0 := by decide
    omega
  rw [nI_lt' (by omega) (by omega)]
  refine ⟨fun q => absurd q (nI_pos (by omega)), fun _ => ⟨fun _ => ?_, fun z => by omega⟩⟩
  refine q_find (by omega) i3 i5 i6 (fun σ1 hs1 hf1 => ?_)
  have hI1 := hI.keep (hf1.keep XfC_keep)
  rw [pk_mul, nI_add]
  refine ⟨vp_n (by omega) (by omega), ?_⟩
  rw [nI_cl (by omega), hs1.1 _ (by omega), RC_RM i5]
  unfold m_X9_rings
  refine p_in (fun _ _ => ⟨fun z => absurd z (by decide), fun _ => ?_⟩) (fun z => absurd in24 z)
  refine p_in4 hw4 ⟨fun _ => ?_, fun z => absurd z (by decide)⟩
  refine p_findRings (L := 0) hI1.2.2.2.1 (i5.bnd i6) (by omega) (fun σ2 hs2 _ hf2 => ?_)
  have hI2 : Inv σ2 := ⟨X, n, T, B, nx, hI1.keep (fr30_keep hf2 XfM_keep)⟩
  have v : vp_in (nI k) 5 := vp_n (by omega) (by omega)
  have S := hs2.1 k (by omega)
  rw [nI_cl (by omega), S.1, S.2.1, S.2.2.1, S.2.2.2, show (0 : Int32) = nI 0 from rfl, nI_eq' (by omega) (by omega), show (1 : Int32) = nI 1 from rfl, nI_eq' (by omega) (by omega), show (2 : Int32) = nI 2 from rfl, nI_eq' (by omega) (by omega)]
  refine ⟨fun z => ⟨fun z1 => ⟨fun z2 => ⟨v, ?_, hI2⟩, fun z2 => ⟨v, ?_, hI2⟩⟩, fun z1 => ⟨v, ?_, hI2⟩⟩, fun z => ⟨v, ?_, hI2⟩⟩
  · rw [show k * 4 + w = 4 * k + 3 by omega]
  · rw [show k * 4 + w = 4 * k + 2 by omega]
  · rw [show k * 4 + w = 4 * k + 1 by omega]
  · rw [show k * 4 + w = 4 * k by omega]
