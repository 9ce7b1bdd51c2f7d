/-! ===== LockWatch.Row: begun anew, gone through anew, drops, changes of places ===== -/
theorem RowOK_nil {b : Nat} {τ : St} (h0 : τ.1 b 0 = 0) (h7 : τ.1 b 7 = 0) (h6 : ∀ t, t < 4 → τ.1 (b + 6) t = 0) (hW : WC (b + 7) τ w0) : RowOK b [] τ := ⟨h0, fun k hk => by simp at hk, hW, fun t ht => h6 t ht, fun t ht => by rw [h7, b_0]; rfl⟩
theorem q_rbegin {b : Nat} {σ : St} {Q : St → Prop} (h : ∀ τ, RowOK b [] τ → fr (XR b) σ τ → (∀ j, τ.1 (b + 1) j = σ.1 (b + 1) j) → Q τ) : m_X4_begin b σ Q := by
  unfold m_X4_begin sIB
  refine q_fill (by omega) (fun σ1 h1 hf1 => q_wbegin (fun σ2 hW hf2 => ?_))
  have g0 : fr (XR b) σ (sI (sI σ b 0 0) b 7 0) := fr_sI (fr_sI fr_rfl _ (XR_in (by omega) (by omega))) _ (XR_in (by omega) (by omega))
  have g1 : fr (XR b) (sI (sI σ b 0 0) b 7 0) σ1 := fr_mono hf1 (fun c i q => by
    simp only [XR, Bool.and_eq_false_iff, decide_eq_false_iff_not] at q
    have : c ≠ b + 6 := by omega
    simp [this])
  have g2 := fr_mono hf2 (Xv_R (b := b))
  have o2 : ∀ c i, c < b + 7 → σ2.1 c i = σ1.1 c i := fun c i hc => hf2.1 c i (Xv_out (by omega))
  have o1 : ∀ c i, c ≠ b + 6 → σ1.1 c i = (sI (sI σ b 0 0) b 7 0).1 c i := fun c i hc => hf1.1 c i (by simp [hc])
  refine h _ (RowOK_nil ?_ ?_ (fun t ht => ?_) hW) (fr_tr (fr_tr g0 g1) g2) (fun j => ?_)
  · rw [o2 _ _ (by omega), o1 _ _ (by omega), sI_out _ _ (by omega), sI_in]
  · rw [o2 _ _ (by omega), o1 _ _ (by omega), sI_in]
  · rw [o2 _ _ (by omega)]; exact h1 t ht
  · rw [o2 _ _ (by omega), o1 _ _ (by omega), sI_out _ _ (by omega), sI_out _ _ (by omega)]
theorem take_s {α : Type} (l : List α) (d : α) {k : Nat} (h : k < l.length) : l.take (k + 1) = l.take k ++ [l.getD k d] := by
  rw [List.take_succ, List.getD_eq_getElem?_getD, List.getElem?_eq_getElem h]; rfl
theorem take_getD {α : Type} (l : List α) (d : α) {k j : Nat} (h : j < k) : (l.take k).getD j d = l.getD j d := by
  simp [List.getD_eq_getElem?_getD, List.getElem?_take, h]
def CodeAt (b : Nat) (U : Tr) (σ : St) : Prop := ∀ k, k < U.length → σ.1 (b + 1) k = nI (cod (U.getD k (0, 0, 0)))
theorem q_replay {b : Nat} {U : Tr} {σ : St} {Q : Int32 → St → Prop} (hB : Bnd U) (hC : CodeAt b U σ) (h1 : Val U → ∀ τ, RowOK b U τ → fr (XR b) σ τ → (∀ j, τ.1 (b + 1) j = σ.1 (b + 1) j) → Q 1 τ) (h0 : ¬ Val U → ∀ τ, fr (XR b) σ τ → (∀ j, τ.1 (b + 1) j = σ.1 (b + 1) j) → Q 0 τ) : m_X4_replay b σ (nI U.length) Q := by
  unfold m_X4_replay
  have hl := hB.1
  refine q_rbegin (fun σ1 r1 f1 c1 => ?_)
  refine lpE1 (m_X4_replay_L6b b (nI U.length) Q (fun σ => m_X4_replay_J30 b (nI U.length) Q σ) (fun σ => m_X4_replay_J38 b (nI U.length) Q σ)) (fun _ => rfl) (fun n τ x => ∃ k, k ≤ U.length ∧ x = nI k ∧ n = U.length - k ∧ RowOK b (U.take k) τ ∧ Val (U.take k) ∧ fr (XR b) σ τ ∧ ∀ j, τ.1 (b + 1) j = σ.1 (b + 1) j) ?_ (n := U.length) ⟨0, by omega, rfl, rfl, r1, Val_nil, f1, c1⟩
  rintro n τ x Rc ⟨k, hk, rfl, hn, hR, hV, hf, hc⟩ hRc
  unfold m_X4_replay_L6b
  rw [nI_le' (by omega) (by omega), show (20 : Int32) = nI 20 from rfl, nI_le' (by omega) (by omega)]
  have fin : k = U.length → Q 1 τ := by
    intro e
    subst e
    rw [List.take_length] at hR hV
    exact h1 hV τ hR hf hc
  refine ⟨fun q => fin (by omega), fun q => ⟨fun q2 => by omega, fun q2 => ⟨vp_n (by omega) (by omega), ?_⟩⟩⟩
  have hk' : k < U.length := by omega
  obtain ⟨s1, s2, s3⟩ := hB.2 k hk'
  rw [nI_cl (by omega), hc k, hC k hk']
  have tl : (U.take k).length = k := by rw [List.length_take]; omega
  refine q_put hR hV (by omega) s1 s2 s3 (fun _ hV' υ hR' hf' hc' => ?_) (fun hno => ?_)
  · refine ⟨fun _ => ?_, fun z => absurd z (by decide)⟩
    rw [nI_1]
    rw [← take_s U (0, 0, 0) hk'] at hR' hV'
    refine hRc (U.length - (k + 1)) _ _ (by omega) ⟨k + 1, by omega, rfl, rfl, hR', hV', fr_tr hf hf', fun j => ?_⟩
    by_cases e : j = k
    · subst e
      have := (hR'.2.1 j (by rw [List.length_take]; omega)).1
      rw [this, take_getD _ _ (by omega), hC j hk']
    · rw [hc' j (by omega)]; exact hc j
  · refine ⟨fun z => absurd rfl z, fun _ => ?_⟩
    refine h0 (fun hv => hno ⟨by omega, ?_⟩) τ hf hc
    rw [← take_s U (0, 0, 0) hk']
    refine Val_pre (U := U.drop (k + 1)) ?_
    rw [List.take_append_drop]
    exact hv
theorem q_copy {b b2 : Nat} {T : Tr} {σ : St} {Q : St → Prop} (hd : b + 9 < b2 ∨ b2 + 9 < b) (hR : RowOK b2 T σ) (hV : Val T) (hl : T.length ≤ 20) (h : ∀ τ, RowOK b T τ → fr (XR b) σ τ → Q τ) : m_X4_copy b b2 σ Q := by
  unfold m_X4_copy
  refine q_rbegin (fun σ1 r1 f1 c1 => ?_)
  refine lpE1 (m_X4_copy_L6b b b2 Q (fun σ => m_X4_copy_J31 b b2 Q σ)) (fun _ => rfl) (fun n τ x => ∃ k, k ≤ T.length ∧ x = nI k ∧ n = T.length - k ∧ RowOK b (T.take k) τ ∧ fr (XR b) σ τ) ?_ (n := T.length) ⟨0, by omega, rfl, rfl, r1, f1⟩
  rintro n τ x Rc ⟨k, hk, rfl, hn, hR1, hf⟩ hRc
  unfold m_X4_copy_L6b
  rw [hf.1 b2 0 (XR_out (by omega)), hR.1, nI_le' (by omega) (by omega)]
  refine ⟨fun q => ?_, fun q => ⟨vp_n (by omega) (by omega), ?_⟩⟩
  · have e : k = T.length := by omega
    subst e
    rw [List.take_length] at hR1
    exact h τ hR1 hf
  · have hk' : k < T.length := by omega
    obtain ⟨s1, s2, s3, _⟩ := hV k hk'
    rw [nI_cl (by omega), hf.1 (b2 + 1) k (XR_out (by omega)), (hR.2.1 k hk').1]
    have tl : (T.take k).length = k := by rw [List.length_take]; omega
    have vt : ∀ j, Val (T.take j) := fun j => Val_pre (U := T.drop j) (by rw [List.take_append_drop]; exact hV)
    refine q_put hR1 (vt k) (by omega) s1 s2 s3 (fun _ hV' υ hR' hf' hc' => ?_) (fun hno => ?_)
    · rw [nI_1]
      rw [← take_s T (0, 0, 0) hk'] at hR'
      exact hRc (T.length - (k + 1)) _ _ (by omega) ⟨k + 1, by omega, rfl, rfl, hR', fr_tr hf hf'⟩
    · exact absurd ⟨by omega, by rw [← take_s T (0, 0, 0) hk']; exact vt (k + 1)⟩ hno
theorem q_has {b : Nat} {σ : St} {n : Nat} {a : Int32} {Q : Int32 → St → Prop} (hs : σ.1 b 0 = nI n) (hn : n ≤ 20) (h1 : ∀ k, k < n → a = nI k → Q 1 σ) (h0 : (∀ k, k < n → a ≠ nI k) → Q 0 σ) : m_X4_has b σ a Q := by
  unfold m_X4_has
  rw [hs]
  rcases arg_n a (n := n) (by omega) with ⟨k, hk, rfl⟩ | q | q
  · refine ⟨fun z => absurd z (nI_pos (by omega)), fun _ => ⟨fun z => ?_, fun _ => h1 k hk rfl⟩⟩
    rw [nI_le' (by omega) (by omega)] at z; omega
  · have : ∀ k, k < n → a ≠ nI k := fun k hk e => by rw [e] at q; exact nI_pos (by omega) q
    exact ⟨fun _ => h0 this, fun z => absurd q z⟩
  · have : ∀ k, k < n → a ≠ nI k := fun k hk e => by rw [e, nI_le' (by omega) (by omega)] at q; omega
    exact ⟨fun _ => h0 this, fun _ => ⟨fun _ => h0 this, fun z => absurd q z⟩⟩
theorem q_hasPair {b : Nat} {σ : St} {n : Nat} {a : Int32} {Q : Int32 → St → Prop} (hs : σ.1 b 0 = nI n) (hn : n ≤ 20) (h1 : ∀ k, k + 1 < n → a = nI k → Q 1 σ) (h0 : (∀ k, k + 1 < n → a ≠ nI k) → Q 0 σ) : m_X4_hasPair b σ a Q := by
  unfold m_X4_hasPair
  rw [hs]
  by_cases hz : n = 0
  · subst hz
    have e : (nI 0 - 1 : Int32) = -1 := by decide
    rw [e]
    refine ⟨fun _ => h0 (fun k hk => by omega), fun q => ⟨fun _ => h0 (fun k hk => by omega), fun q2 => ?_⟩⟩
    exfalso
    rw [Int32.le_iff_toInt_le] at q2
    rw [Int32.lt_iff_toInt_lt] at q
    have e1 : (-1 : Int32).toInt = -1 := by decide
    have e0 : (0 : Int32).toInt = 0 := by decide
    omega
  · have e : nI n - 1 = nI (n - 1) := by rw [show (1 : Int32) = nI 1 from rfl, pk_sub (by omega)]
    rw [e]
    rcases arg_n a (n := n - 1) (by omega) with ⟨k, hk, rfl⟩ | q | q
    · refine ⟨fun z => absurd z (nI_pos (by omega)), fun _ => ⟨fun z => ?_, fun _ => h1 k (by omega) rfl⟩⟩
      rw [nI_le' (by omega) (by omega)] at z; omega
    · have : ∀ k, k + 1 < n → a ≠ nI k := fun k hk e => by rw [e] at q; exact nI_pos (by omega) q
      exact ⟨fun _ => h0 this, fun z => absurd q z⟩
    · have : ∀ k, k + 1 < n → a ≠ nI k := fun k hk e => by rw [e, nI_le' (by omega) (by omega)] at q; omega
      exact ⟨fun _ => h0 this, fun _ => ⟨fun _ => h0 this, fun z => absurd q z⟩⟩
def Xc (b : Nat) (c i : Nat) : Bool := c == b + 1
theorem Xc_R {b : Nat} : ∀ c i, XR b c i = false → Xc b c i = false := by
  intro c i h
  simp only [XR, Bool.and_eq_false_iff, decide_eq_false_iff_not] at h
  have : c ≠ b + 1 := by omega
  simp [Xc, this]
theorem q_open {b p n : Nat} {v : Int32} {σ : St} {Q : St → Prop} (hp : p < n) (hn : n ≤ 20) (h : ∀ τ, (∀ j, j < n → τ.1 (b + 1) j = if j < p then σ.1 (b + 1) j else if j = p then v else σ.1 (b + 1) (j - 1)) → fr (Xc b) σ τ → Q τ) : m_X4_open b σ (nI p) v (nI n) Q := by
  unfold m_X4_open bI
  have e1 : nI n - 1 = nI (n - 1) := by rw [show (1 : Int32) = nI 1 from rfl, pk_sub (by omega)]
  rw [e1]
  refine lpE1 (m_X4_open_L5b b (nI p) v (nI n) Q (fun σ => m_X4_open_J33 b (nI p) v (nI n) Q σ)) (fun _ => rfl) (fun m τ x => ∃ i, p ≤ i ∧ i ≤ n - 1 ∧ x = nI i ∧ m = i - p ∧ fr (Xc b) σ τ ∧ (∀ j, j ≤ i → τ.1 (b + 1) j = σ.1 (b + 1) j) ∧ ∀ j, i < j → j < n → τ.1 (b + 1) j = σ.1 (b + 1) (j - 1)) ?_ (n := n - 1 - p) ⟨n - 1, by omega, by omega, rfl, rfl, fr_rfl, fun _ _ => rfl, fun j a b => by omega⟩
  rintro m τ x Rc ⟨i, hi, hi2, rfl, hm, hf, ha, hb⟩ hRc
  unfold m_X4_open_L5b
  rw [nI_le' (by omega) (by omega)]
  refine ⟨fun q => ?_, fun q => ?_⟩
  · have e : i = p := by omega
    subst e
    unfold m_X4_open_J33 sIB
    refine ⟨vp_n (by omega) (by omega), ?_⟩
    rw [nI_cl (by omega)]
    refine h _ (fun j hj => ?_) (fr_sI hf _ (by simp [Xc]))
    rw [sI_get]
    by_cases e1 : j = i
    · subst e1; simp
    · by_cases e2 : j < i
      · simp [e1, e2]; exact ha j (by omega)
      · simp [e1, e2]; exact hb j (by omega) hj
  · have e2 : nI i - 1 = nI (i - 1) := by rw [show (1 : Int32) = nI 1 from rfl, pk_sub (by omega)]
    have e3 : nI i + (-1) = nI (i - 1) := sb_m1 (by omega)
    rw [e2, e3, nI_cl (by omega), nI_cl (by omega)]
    refine ⟨vp_n (by omega) (by omega), vp_n (by omega) (by omega), ?_⟩
    unfold sIB
    refine hRc (i - 1 - p) _ _ (by omega) ⟨i - 1, by omega, by omega, rfl, rfl, fr_sI hf _ (by simp [Xc]), fun j hj => ?_, fun j h1 h2 => ?_⟩
    · rw [sI_out _ _ (by omega)]; exact ha j (by omega)
    · by_cases e : j = i
      · subst e
        rw [sI_in]; exact ha _ (by omega)
      · rw [sI_out _ _ (by omega)]; exact hb j (by omega) h2
theorem Bnd_erase {T : Tr} (h : Bnd T) (k : Nat) : Bnd (T.eraseIdx k) := by
  refine ⟨Nat.le_trans (List.length_eraseIdx_le _ _) h.1, fun j hj => ?_⟩
  unfold th sg ab
  rw [getD_erase]
  split
  · refine h.2 j ?_
    have := List.length_eraseIdx_le T k
    omega
  · rename_i hjk
    refine h.2 (j + 1) ?_
    rw [List.length_eraseIdx] at hj
    split at hj <;> omega
theorem Bnd_swp {T : Tr} (h : Bnd T) {k : Nat} (hk : k + 1 < T.length) : Bnd (swp T k) := by
  refine ⟨by rw [swp_len]; exact h.1, fun j hj => ?_⟩
  rw [swp_len] at hj
  unfold th sg ab
  rw [getD_swp T hk]
  split
  · exact h.2 (k + 1) hk
  · split
    · exact h.2 k (by omega)
    · exact h.2 j hj
theorem q_takeOut {b : Nat} {T : Tr} {σ : St} {a : Int32} {Q : Int32 → St → Prop} (hR : RowOK b T σ) (hV : Val T) (hl : T.length ≤ 20) (h1 : ∀ k, k < T.length → a = nI k → Val (T.eraseIdx k) → ∀ τ, RowOK b (T.eraseIdx k) τ → fr (XR b) σ τ → Q 1 τ) (h0 : (∀ k, k < T.length → a = nI k → ¬ Val (T.eraseIdx k)) → ∀ τ, RowOK b T τ → fr (XR b) σ τ → Q 0 τ) : m_X4_takeOut b σ a Q := by
  unfold m_X4_takeOut
  have hB := hV.bnd hl
  refine q_has hR.1 hl (fun k hk e => ?_) (fun hno => ⟨fun z => absurd rfl z, fun _ => h0 (fun k hk e => absurd e (hno k hk)) σ hR fr_rfl⟩)
  subst e
  refine ⟨fun _ => ?_, fun z => absurd z (by decide)⟩
  unfold bI
  refine ⟨vp_n (by omega) (by omega), ?_⟩
  rw [nI_cl (by omega), hR.1, (hR.2.1 k hk).1]
  have e1 : nI T.length - 1 = nI (T.length - 1) := by rw [show (1 : Int32) = nI 1 from rfl, pk_sub (by omega)]
  refine lpE1 (m_X4_takeOut_L25b b (nI k) Q (nI T.length) (nI (cod (T.getD k (0, 0, 0)))) (fun σ => m_X4_takeOut_J55 b (nI k) Q σ (nI T.length) (nI (cod (T.getD k (0, 0, 0)))))) (fun _ => rfl) (fun n τ x => ∃ i, k ≤ i ∧ i ≤ T.length - 1 ∧ x = nI i ∧ n = T.length - 1 - i ∧ fr (Xc b) σ τ ∧ (∀ j, j < i → τ.1 (b + 1) j = nI (cod ((T.eraseIdx k).getD j (0, 0, 0)))) ∧ ∀ j, i ≤ j → j < T.length → τ.1 (b + 1) j = nI (cod (T.getD j (0, 0, 0)))) ?_ (n := T.length - 1 - k) ⟨k, by omega, by omega, rfl, rfl, fr_rfl, fun j hj => ?_, fun j a1 a2 => (hR.2.1 j a2).1⟩
  rotate_left
  · rw [(hR.2.1 j (by omega)).1, getD_erase, if_pos hj]
  rintro n τ x Rc ⟨i, hi, hi2, rfl, hn, hf, ha, hb⟩ hRc
  unfold m_X4_takeOut_L25b
  rw [e1, nI_le' (by omega) (by omega)]
  refine ⟨fun q => ?_, fun q => ?_⟩
  · have e : i = T.length - 1 := by omega
    subst e
    unfold m_X4_takeOut_J55
    rw [e1, ← erase_len T hk]
    have hC : CodeAt b (T.eraseIdx k) τ := fun j hj => ha j (by rw [erase_len T hk] at hj; exact hj)
    have hfR := fr_mono hf (Xc_R (b := b))
    refine q_replay (Bnd_erase hB k) hC (fun hv υ hRu hfu hcu => ⟨fun z => absurd z (by decide), fun _ => h1 k hk rfl hv υ hRu (fr_tr hfR hfu)⟩) (fun hv υ hfu hcu => ⟨fun _ => ?_, fun z => absurd rfl z⟩)
    refine q_open (by omega) hl (fun φ hφ hfφ => ?_)
    have hfφR := fr_mono hfφ (Xc_R (b := b))
    have hCT : CodeAt b T φ := by
      intro j hj
      rw [hφ j hj]
      by_cases c1 : j < k
      · rw [if_pos c1, hcu j, ha j (by omega), getD_erase, if_pos c1]
      · rw [if_neg c1]
        by_cases c2 : j = k
        · rw [if_pos c2, c2]
        · rw [if_neg c2, hcu, ha (j - 1) (by omega), getD_erase, if_neg (by omega), show j - 1 + 1 = j by omega]
    refine q_replay hB hCT (fun hvT ψ hRψ hfψ _ => ?_) (fun hnv => absurd hV hnv)
    refine h0 (fun k' hk' e => ?_) ψ hRψ (fr_tr (fr_tr (fr_tr hfR hfu) hfφR) hfψ)
    rw [nI_eq' (by omega) (by omega)] at e
    subst e; exact hv
  · rw [nI_1, nI_cl (by omega), nI_cl (by omega)]
    refine ⟨vp_n (by omega) (by omega), vp_n (by omega) (by omega), ?_⟩
    unfold sIB
    refine hRc (T.length - 1 - (i + 1)) _ _ (by omega) ⟨i + 1, by omega, by omega, rfl, rfl, fr_sI hf _ (by simp [Xc]), fun j hj => ?_, fun j a1 a2 => ?_⟩
    · by_cases e : j = i
      · subst e
        rw [sI_in, hb (j + 1) (by omega) (by omega), getD_erase, if_neg (by omega)]
      · rw [sI_out _ _ (by omega)]; exact ha j (by omega)
    · rw [sI_out _ _ (by omega)]; exact hb j (by omega) a2
theorem q_exchange {b k : Nat} {T : Tr} {σ : St} {Q : St → Prop} (hC : CodeAt b T σ) (hl : T.length ≤ 20) (hk : k + 1 < T.length) (h : ∀ τ, CodeAt b (swp T k) τ → fr (Xc b) σ τ → Q τ) : m_X4_exchange b σ (nI k) Q := by
  unfold m_X4_exchange bI sIB
  rw [nI_1, nI_cl (by omega), nI_cl (by omega)]
  refine ⟨vp_n (by omega) (by omega), vp_n (by omega) (by omega), vp_n (by omega) (by omega), vp_n (by omega) (by omega), ?_⟩
  refine h _ (fun j hj => ?_) (fr_sI (fr_sI fr_rfl _ (by simp [Xc])) _ (by simp [Xc]))
  rw [swp_len] at hj
  rw [getD_swp T hk]
  by_cases e1 : j = k + 1
  · subst e1
    rw [sI_in, if_neg (by omega), if_pos rfl]; exact hC k (by omega)
  · by_cases e2 : j = k
    · subst e2
      rw [sI_out _ _ (by omega), sI_in, if_pos rfl]; exact hC (j + 1) hk
    · rw [sI_out _ _ (by omega), sI_out _ _ (by omega), if_neg e2, if_neg e1]; exact hC j hj
theorem swp_swp (T : Tr) {k : Nat} (hk : k + 1 < T.length) : swp (swp T k) k = T := by
  have hk2 : k + 1 < (swp T k).length := by rw [swp_len]; exact hk
  apply List.ext_getElem?
  intro j
  have g : ∀ (l : Tr) (j : Nat), j < l.length → l[j]? = some (l.getD j (0, 0, 0)) := fun l j h => by simp [List.getD_eq_getElem?_getD, List.getElem?_eq_getElem h]
  by_cases hj : j < T.length
  · rw [g _ _ (by rw [swp_len, swp_len]; exact hj), g _ _ hj, getD_swp _ hk2, getD_swp _ hk, getD_swp _ hk, getD_swp _ hk]
    congr 1
    by_cases e1 : j = k
    · subst e1; simp
    · by_cases e2 : j = k + 1
      · subst e2; simp
      · simp [e1, e2]
  · rw [List.getElem?_eq_none (by rw [swp_len, swp_len]; omega), List.getElem?_eq_none (by omega)]
theorem RowOK.code {b : Nat} {T : Tr} {σ : St} (h : RowOK b T σ) : CodeAt b T σ := fun k hk => (h.2.1 k hk).1
theorem q_changePlaces {b : Nat} {T : Tr} {σ : St} {a : Int32} {Q : Int32 → St → Prop} (hR : RowOK b T σ) (hV : Val T) (hl : T.length ≤ 20) (h1 : ∀ k, k + 1 < T.length → a = nI k → Val (swp T k) → ∀ τ, RowOK b (swp T k) τ → fr (XR b) σ τ → Q 1 τ) (h0 : (∀ k, k + 1 < T.length → a = nI k → ¬ Val (swp T k)) → ∀ τ, RowOK b T τ → fr (XR b) σ τ → Q 0 τ) : m_X4_changePlaces b σ a Q := by
  unfold m_X4_changePlaces
  have hB := hV.bnd hl
  refine q_hasPair hR.1 hl (fun k hk e => ?_) (fun hno => ⟨fun z => absurd rfl z, fun _ => h0 (fun k hk e => absurd e (hno k hk)) σ hR fr_rfl⟩)
  subst e
  refine ⟨fun _ => ?_, fun z => absurd z (by decide)⟩
  unfold bI
  rw [hR.1]
  refine q_exchange hR.code hl hk (fun τ hC hf => ?_)
  have hfR := fr_mono hf (Xc_R (b := b))
  rw [← swp_len T k]
  refine q_replay (Bnd_swp hB hk) hC (fun hv υ hRu hfu hcu => ⟨fun z => absurd z (by decide), fun _ => h1 k hk rfl hv υ hRu (fr_tr hfR hfu)⟩) (fun hv υ hfu hcu => ⟨fun _ => ?_, fun z => absurd rfl z⟩)
  have hC2 : CodeAt b (swp T k) υ := fun j hj => (hcu j).trans (hC j hj)
  refine q_exchange hC2 (by rw [swp_len]; exact hl) (by rw [swp_len]; exact hk) (fun φ hCφ hfφ => ?_)
  rw [swp_swp T hk] at hCφ
  rw [swp_len]
  refine q_replay hB hCφ (fun hvT ψ hRψ hfψ _ => ?_) (fun hnv => absurd hV hnv)
  refine h0 (fun k' hk' e => ?_) ψ hRψ (fr_tr (fr_tr (fr_tr hfR hfu) (fr_mono hfφ (Xc_R (b := b)))) hfψ)
  rw [nI_eq' (by omega) (by omega)] at e
  subst e; exact hv
theorem bI_i {x : Int32} {K : Int32 → Prop} (h : K x) : bI x K := h
theorem bL_i {x : Int64} {K : Int64 → Prop} (h : K x) : bL x K := h
theorem q_putBack {b p : Nat} {U : Tr} {σ : St} {Q : St → Prop} (hR : RowOK b (U.eraseIdx p) σ) (hp : p < U.length) (hV : Val U) (hl : U.length ≤ 20) (h : ∀ τ, RowOK b U τ → fr (XR b) σ τ → Q τ) : m_X4_putBack b σ (nI p) (nI (cod (U.getD p (0, 0, 0)))) Q := by
  unfold m_X4_putBack
  have hs := hR.1
  rw [erase_len U hp] at hs
  rw [hs]
  have c20 : ¬ (20 : Int32) ≤ nI (U.length - 1) := fun q => by
    have := (nI_le' (a := 20) (b := U.length - 1) (by omega) (by omega)).mp q
    omega
  refine ⟨fun q => absurd q c20, fun _ => ⟨fun q => absurd q (nI_pos (by omega)), fun _ => ⟨fun q => ?_, fun _ => ?_⟩⟩⟩
  · have q' := (nI_lt' (a := U.length - 1) (b := p) (by omega) (by omega)).mp q
    exact absurd q' (by omega)
  · refine bI_i ?_
    rw [nI_1, show U.length - 1 + 1 = U.length by omega]
    refine q_open hp hl (fun φ hφ hfφ => ?_)
    have hCT : CodeAt b U φ := by
      intro j hj
      rw [hφ j hj]
      by_cases c1 : j < p
      · rw [if_pos c1, hR.code j (by rw [erase_len U hp]; omega), getD_erase, if_pos c1]
      · rw [if_neg c1]
        by_cases c2 : j = p
        · rw [if_pos c2, c2]
        · rw [if_neg c2, hR.code (j - 1) (by rw [erase_len U hp]; omega), getD_erase, if_neg (by omega), show j - 1 + 1 = j by omega]
    exact q_replay (hV.bnd hl) hCT (fun hvT ψ hRψ hfψ _ => h ψ hRψ (fr_tr (fr_mono hfφ (Xc_R (b := b))) hfψ)) (fun hnv => absurd hV hnv)
