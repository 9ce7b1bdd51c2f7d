/-! ===== LockWatch.Row ===== -/
def cod (s : Tp) : Nat := 16 * ltr s.2.1 + 4 * s.1 + s.2.2
theorem cod_lt {s : Tp} (h1 : s.1 < 4) (h3 : s.2.2 < 4) : cod s < 2000 := by unfold cod; have := ltr_lt s.2.1; omega
theorem sh2 : (((2 : Int32) &&& 31).toBitVec.smod 32).toNat = 2 := by decide
theorem sh4 : (((4 : Int32) &&& 31).toBitVec.smod 32).toNat = 4 := by decide
theorem cod_t {s : Tp} (h1 : s.1 < 4) (h3 : s.2.2 < 4) : (nI (cod s) >>> ((2 : Int32) &&& 31)) &&& 3 = nI s.1 := by
  have := cod_lt h1 h3
  rw [pk_shrN (by omega) _ 2 sh2, pk_andN (by omega) 2 (by decide)]
  congr 1
  unfold cod; omega
theorem cod_g {s : Tp} (h1 : s.1 < 4) (h3 : s.2.2 < 4) : nI (cod s) >>> ((4 : Int32) &&& 31) = nI (ltr s.2.1) := by
  have := cod_lt h1 h3
  rw [pk_shrN (by omega) _ 4 sh4]
  congr 1
  unfold cod; omega
theorem cod_o {s : Tp} (h1 : s.1 < 4) (h3 : s.2.2 < 4) : nI (cod s) &&& 3 = nI s.2.2 := by
  have := cod_lt h1 h3
  rw [pk_andN (by omega) 2 (by decide)]
  congr 1
  unfold cod; omega
def gd (T : Tr) (k : Nat) : Int32 := if sg T k = 4 then hw T k else hw T k ||| hr T k
def RowOK (b : Nat) (T : Tr) (σ : St) : Prop := σ.1 b 0 = nI T.length ∧ (∀ k, k < T.length → σ.1 (b + 1) k = nI (cod (T.getD k (0, 0, 0))) ∧ σ.1 (b + 2) k = hw T k ∧ σ.1 (b + 3) k = hr T k ∧ σ.1 (b + 4) k = gd T k ∧ σ.1 (b + 5) k = bf T k) ∧ WC (b + 7) σ (wl T T.length) ∧ (∀ t, t < 4 → σ.1 (b + 6) t = pst T T.length t) ∧ ∀ t, t < 4 → bt (σ.1 b 7) t = acd T T.length t
def XR (b : Nat) (c i : Nat) : Bool := decide (b ≤ c) && decide (c ≤ b + 9)
theorem XR_in {b c i : Nat} (h1 : b ≤ c) (h2 : c ≤ b + 9) : XR b c i = true := by simp [XR, h1, h2]
theorem XR_out {b c i : Nat} (h : c < b ∨ b + 9 < c) : XR b c i = false := by
  simp only [XR, Bool.and_eq_false_iff, decide_eq_false_iff_not]; omega
theorem Xv_R {b : Nat} : ∀ c i, XR b c i = false → Xv (b + 7) c i = false := by
  intro c i h
  simp only [XR, Bool.and_eq_false_iff, decide_eq_false_iff_not] at h
  exact Xv_out (by omega)
theorem RowOK.fr {b : Nat} {T : Tr} {σ τ : St} {X : Nat → Nat → Bool} (h : RowOK b T σ) (hf : fr X σ τ) (hX : ∀ c i, b ≤ c → c ≤ b + 9 → X c i = false) : RowOK b T τ := by
  obtain ⟨h1, h2, ⟨h3, h4, h5, h6⟩, h7, h8⟩ := h
  refine ⟨(hf.1 _ _ (hX _ _ (by omega) (by omega))).trans h1, fun k hk => ?_, ⟨fun t ht => ?_, fun t ht => ?_, ?_, ?_⟩, fun t ht => ?_, fun t ht => ?_⟩
  · rw [hf.1 (b + 1) k (hX _ _ (by omega) (by omega)), hf.1 (b + 2) k (hX _ _ (by omega) (by omega)), hf.1 (b + 3) k (hX _ _ (by omega) (by omega)), hf.1 (b + 4) k (hX _ _ (by omega) (by omega)), hf.1 (b + 5) k (hX _ _ (by omega) (by omega))]
    exact h2 k hk
  · rw [hf.1 _ _ (hX _ _ (by omega) (by omega))]; exact h3 t ht
  · rw [hf.1 _ _ (hX _ _ (by omega) (by omega))]; exact h4 t ht
  · rw [hf.1 _ _ (hX _ _ (by omega) (by omega))]; exact h5
  · rw [hf.1 _ _ (hX _ _ (by omega) (by omega))]; exact h6
  · rw [hf.1 _ _ (hX _ _ (by omega) (by omega))]; exact h7 t ht
  · rw [hf.1 _ _ (hX _ _ (by omega) (by omega))]; exact h8 t ht
theorem pst_app (T U : Tr) {k : Nat} (h : k ≤ T.length) (t : Nat) : pst (T ++ U) k t = pst T k t := by
  unfold pst
  rw [allB_congr (T ++ U) T _ (bf T) t (fun e he => ⟨bf_app T U (by omega), th_app T U (by omega)⟩)]
  exact stB_congr (T ++ U) T _ (bf T) t _ (fun e he => ⟨bf_app T U (by omega), sg_app T U (by omega), ab_app T U (by omega)⟩)
theorem acd_app (T U : Tr) (t : Nat) : ∀ {k : Nat}, k ≤ T.length → acd (T ++ U) k t = acd T k t
  | 0, _ => rfl
  | k + 1, h => by rw [acd, acd, acd_app T U t (by omega), th_app T U (by omega)]
theorem hw_app (T U : Tr) {k : Nat} (h : k < T.length) : hw (T ++ U) k = hw T k := by unfold hw; rw [wl_app T U (by omega), th_app T U h]
theorem hr_app (T U : Tr) {k : Nat} (h : k < T.length) : hr (T ++ U) k = hr T k := by unfold hr; rw [wl_app T U (by omega), th_app T U h]
theorem gd_app (T U : Tr) {k : Nat} (h : k < T.length) : gd (T ++ U) k = gd T k := by unfold gd; rw [sg_app T U h, hw_app T U h, hr_app T U h]
theorem q_order {b : Nat} {T : Tr} {s : Tp} {σ : St} {Q : St → Prop} (hV : Val (T ++ [s])) (hl : T.length < 20) (h0 : σ.1 b 0 = nI T.length) (hp : ∀ t, t < 4 → σ.1 (b + 6) t = pst T T.length t) (ha : ∀ t, t < 4 → bt (σ.1 b 7) t = acd T T.length t)
    (h : ∀ τ, τ.1 (b + 5) T.length = bf (T ++ [s]) T.length → (∀ t, t < 4 → τ.1 (b + 6) t = pst (T ++ [s]) (T.length + 1) t) → (∀ t, t < 4 → bt (τ.1 b 7) t = acd (T ++ [s]) (T.length + 1) t) → fr (fun c i => (c == b + 5 && i == T.length) || c == b + 6 || (c == b && i == 7)) σ τ → Q τ) : m_X4_order b σ (nI s.1) (nI (ltr s.2.1)) (nI s.2.2) Q := by
  have hlen : T.length < (T ++ [s]).length := by simp
  obtain ⟨b1, b2, b3, b4⟩ := hV T.length hlen
  have ebf := bf_past hV hlen
  have eps := pst_step hV hlen
  rw [th_last] at b1 ebf
  rw [sg_last] at b2 ebf
  rw [ab_last] at b3 ebf
  simp only [th_last, sg_last, ab_last] at eps
  have hl7 := ltr_lt s.2.1
  have e6 : (nI (ltr s.2.1) = 106) ↔ s.2.1 = 6 := by
    rw [show (106 : Int32) = nI 106 from rfl, nI_eq' (by omega) (by omega)]
    constructor
    · intro q; have := sgn_ltr b2; rw [q] at this; injection this with this; exact this.symm
    · intro q; rw [q]; rfl
  have e5 : (nI (ltr s.2.1) = 102) ↔ s.2.1 = 5 := by
    rw [show (102 : Int32) = nI 102 from rfl, nI_eq' (by omega) (by omega)]
    constructor
    · intro q; have := sgn_ltr b2; rw [q] at this; injection this with this; exact this.symm
    · intro q; rw [q]; rfl
  have J : m_X4_order_J37 b (nI s.1) (nI (ltr s.2.1)) (nI s.2.2) Q σ (bf (T ++ [s]) T.length) := by
    unfold m_X4_order_J37 sIB
    rw [h0]
    refine ⟨vp_n (by omega) (by omega), ?_⟩
    dsimp only
    rw [nI_cl (by omega), sI_out (a := b) (j := 0) _ _ (by omega), h0]
    refine ⟨vp_n b1 (by omega), ?_⟩
    rw [nI_cl (by omega), e5]
    have bit : ((1 : Int32) <<< (nI T.length &&& 31)) = bitI T.length := rfl
    have bit1 : ((1 : Int32) <<< (nI s.1 &&& 31)) = bitI s.1 := rfl
    rw [bit, bit1]
    have acted : ∀ t, t < 4 → bt (σ.1 b 7 ||| bitI s.1) t = acd (T ++ [s]) (T.length + 1) t := by
      intro t ht
      rw [b_or, ha t ht, b_bit (by omega) (by omega), acd, acd_app T _ _ (Nat.le_refl _), th_last]
      congr 1
      exact decide_eq_decide.mpr ⟨fun q => q.symm, fun q => q.symm⟩
    refine ⟨fun q => ?_, fun q => ⟨vp_n b1 (by omega), vp_n b3 (by omega), ?_⟩⟩
    · rw [sI_out (a := b) (j := 7) _ _ (by omega), sI_out (a := b) (j := 7) _ _ (by omega)]
      refine h _ ?_ (fun t ht => ?_) (fun t ht => ?_) (fr_sI (fr_sI (fr_sI fr_rfl _ (by simp)) _ (by simp)) _ (by simp))
      · rw [sI_out _ _ (by omega), sI_out _ _ (by omega), sI_in]
      · rw [sI_out _ _ (by omega), eps t, if_neg (fun z => q z.1), sI_get, sI_out _ _ (by omega), hp t ht, pst_app T _ (Nat.le_refl _)]
        by_cases e : t = s.1
        · simp [e]
        · have e' : ¬ s.1 = t := fun z => e z.symm
          simp [e, e']
      · rw [sI_in]; exact acted t ht
    · rw [nI_cl (by omega)]
      rw [sI_out (a := b) (j := 7) _ _ (by omega), sI_out (a := b) (j := 7) _ _ (by omega), sI_out (a := b) (j := 7) _ _ (by omega)]
      refine h _ ?_ (fun t ht => ?_) (fun t ht => ?_) (fr_sI (fr_sI (fr_sI (fr_sI fr_rfl _ (by simp)) _ (by simp)) _ (by simp)) _ (by simp))
      · rw [sI_out _ _ (by omega), sI_out _ _ (by omega), sI_out _ _ (by omega), sI_in]
      · rw [sI_out _ _ (by omega), eps t, sI_get, sI_in]
        by_cases e : t = s.2.2
        · subst e
          rw [if_pos ⟨rfl, rfl⟩, if_pos ⟨q, rfl⟩]
        · rw [if_neg (fun z => e z.2), if_neg (fun z => e z.2.symm), sI_get, sI_out _ _ (by omega), hp t ht, pst_app T _ (Nat.le_refl _)]
          by_cases e1 : t = s.1
          · simp [e1]
          · have e' : ¬ s.1 = t := fun z => e1 z.symm
            simp [e1, e']
      · rw [sI_in]; exact acted t ht
  unfold m_X4_order bI
  refine ⟨vp_n b1 (by omega), ?_⟩
  dsimp only
  rw [nI_cl (by omega), hp s.1 b1, e6]
  rw [pst_app T _ (Nat.le_refl _), pst_app T _ (Nat.le_refl _), acd_app T _ _ (Nat.le_refl _)] at ebf
  refine ⟨fun q => ?_, fun q => ?_⟩
  · rw [if_neg (fun z => q z.1)] at ebf
    rw [← ebf]; exact J
  · rw [hb_val _ (by omega), ha _ b3]
    cases hac : acd T T.length s.2.2
    · refine ⟨fun _ => ?_, fun z => absurd z (by decide)⟩
      rw [if_neg (by rw [hac]; simp)] at ebf
      rw [← ebf]; exact J
    · refine ⟨fun z => absurd rfl z, fun _ => ⟨vp_n b3 (by omega), ?_⟩⟩
      rw [if_pos ⟨q, hac⟩] at ebf
      rw [nI_cl (by omega), hp _ b3, ← ebf]; exact J
theorem q_put {b : Nat} {T : Tr} {s : Tp} {σ : St} {Q : Int32 → St → Prop} (hR : RowOK b T σ) (hV : Val T) (hl : T.length ≤ 20) (s1 : s.1 < 4) (s2 : s.2.1 < 7) (s3 : s.2.2 < 4)
    (h1 : T.length < 20 → Val (T ++ [s]) → ∀ τ, RowOK b (T ++ [s]) τ → fr (XR b) σ τ → (∀ j, j ≠ T.length → τ.1 (b + 1) j = σ.1 (b + 1) j) → Q 1 τ) (h0 : ¬ (T.length < 20 ∧ Val (T ++ [s])) → Q 0 σ) : m_X4_put b σ (nI (cod s)) Q := by
  obtain ⟨r1, r2, r3, r4, r5⟩ := hR
  unfold m_X4_put bI
  dsimp only
  rw [cod_t s1 s3, cod_g s1 s3, cod_o s1 s3, r1, show (20 : Int32) = nI 20 from rfl, nI_le' (by omega) (by omega)]
  have hl7 := ltr_lt s.2.1
  have hsm : Wsm (wl T T.length) := Wsm_wl (fun k hk => (hV k hk).2.2.1) _ (Nat.le_refl _)
  refine ⟨fun q => h0 (fun z => by omega), fun q => ?_⟩
  have bad : okS (wl T T.length) s.1 s.2.1 s.2.2 = false → Q 0 σ := by
    intro hb
    refine h0 (fun z => ?_)
    have := (z.2 T.length (by simp)).2.2.2
    rw [th_last, sg_last, ab_last, wl_app T _ (Nat.le_refl _), hb] at this
    cases this
  refine q_choices r3 hsm s1 (by omega) (fun g m hg hrun hm hbit => ?_) (fun z => ?_)
  rotate_left
  · have hb := bad (by
      rcases z with z | z
      · simp [okS, z]
      · rw [sgn_ltr s2] at z; cases z)
    have e0 : ((0 : Int32) >>> (nI s.2.2 &&& 31)) &&& 1 = 0 := by rw [hb_val _ (by omega), b_0]; rfl
    rw [e0]
    exact ⟨fun z => absurd rfl z, fun _ => hb⟩
  rw [sgn_ltr s2] at hg
  injection hg with hg
  subst hg
  rw [hb_val _ (by omega), hbit _ s3]
  cases hm2 : wmay (wl T T.length) s.1 s.2.1 s.2.2
  · exact ⟨fun z => absurd rfl z, fun _ => bad (by simp [okS, hm2])⟩
  refine ⟨fun _ => ?_, fun z => absurd z (by decide)⟩
  have hV' : Val (T ++ [s]) := Val_app hV s1 s2 s3 (by simp [okS, hrun, hm2])
  have hlt : T.length < 20 := by omega
  unfold sIB
  dsimp only
  rw [r1, nI_cl (by omega), nI_cl (by omega)]
  rw [sI_out (a := b) (j := 0) _ _ (by omega), sI_out (a := b) (j := 0) _ _ (by omega), r1, nI_cl (by omega)]
  rw [sI_out (a := b) (j := 0) _ _ (by omega), sI_out (a := b) (j := 0) _ _ (by omega), r1, nI_cl (by omega)]
  rw [sI_out (a := b) (j := 0) _ _ (by omega), sI_out (a := b) (j := 0) _ _ (by omega), r1, nI_cl (by omega)]
  have v4 : vp_in (nI s.1) 4 := vp_n s1 (by omega)
  have v20 : vp_in (nI T.length) 20 := vp_n (by omega) (by omega)
  refine ⟨v20, v4, v20, v4, v20, ?_⟩
  have ewr : (nI (ltr s.2.1) = 119) ↔ s.2.1 = 4 := by
    rw [show (119 : Int32) = nI 119 from rfl, nI_eq' (by omega) (by omega)]
    constructor
    · intro z; have := sgn_ltr s2; rw [z] at this; injection this with this; exact this.symm
    · intro z; rw [z]; rfl
  have fin : ∀ (x y z g : Int32), x = hw (T ++ [s]) T.length → y = hr (T ++ [s]) T.length → g = gd (T ++ [s]) T.length → m_X4_put_J134 b (nI (cod s)) Q (sI (sI (sI σ (b + 1) T.length (nI (cod s))) (b + 2) T.length x) (b + 3) T.length y) (nI s.1) (nI (ltr s.2.1)) (nI s.2.2) (nI T.length) g := by
    intro x y z g hx hy hg
    unfold m_X4_put_J134 sIB
    refine ⟨v20, ?_⟩
    rw [nI_cl (by omega)]
    generalize hσ : sI (sI (sI (sI σ (b + 1) T.length (nI (cod s))) (b + 2) T.length x) (b + 3) T.length y) (b + 4) T.length g = υ
    have u0 : υ.1 b 0 = nI T.length := by rw [← hσ, sI_out _ _ (by omega), sI_out _ _ (by omega), sI_out _ _ (by omega), sI_out _ _ (by omega), r1]
    have ufr : fr (XR b) σ υ := by rw [← hσ]; exact fr_sI (fr_sI (fr_sI (fr_sI fr_rfl _ (XR_in (by omega) (by omega))) _ (XR_in (by omega) (by omega))) _ (XR_in (by omega) (by omega))) _ (XR_in (by omega) (by omega))
    have uo : ∀ c i, c ≠ b + 1 → c ≠ b + 2 → c ≠ b + 3 → c ≠ b + 4 → υ.1 c i = σ.1 c i := by
      intro c i c1 c2 c3 c4
      rw [← hσ, sI_out _ _ (by omega), sI_out _ _ (by omega), sI_out _ _ (by omega), sI_out _ _ (by omega)]
    have uk : ∀ c i, i ≠ T.length → υ.1 c i = σ.1 c i := by
      intro c i c1
      rw [← hσ, sI_out _ _ (by omega), sI_out _ _ (by omega), sI_out _ _ (by omega), sI_out _ _ (by omega)]
    have w1 : υ.1 (b + 1) T.length = nI (cod s) := by rw [← hσ, sI_out _ _ (by omega), sI_out _ _ (by omega), sI_out _ _ (by omega), sI_in]
    have w2 : υ.1 (b + 2) T.length = x := by rw [← hσ, sI_out _ _ (by omega), sI_out _ _ (by omega), sI_in]
    have w3 : υ.1 (b + 3) T.length = y := by rw [← hσ, sI_out _ _ (by omega), sI_in]
    have w4 : υ.1 (b + 4) T.length = g := by rw [← hσ, sI_in]
    refine q_order hV' hlt u0 (fun t ht => by rw [uo _ _ (by omega) (by omega) (by omega) (by omega)]; exact r4 t ht) (fun t ht => by rw [uo _ _ (by omega) (by omega) (by omega) (by omega)]; exact r5 t ht) (fun φ p1 p2 p3 p4 => ?_)
    have φo : ∀ c i, c ≠ b + 5 → c ≠ b + 6 → ¬ (c = b ∧ i = 7) → φ.1 c i = υ.1 c i := by
      intro c i c1 c2 c3
      refine p4.1 c i ?_
      have : ¬ (c = b ∧ i = 7) := c3
      simp only [Bool.or_eq_false_iff, Bool.and_eq_false_iff, beq_eq_false_iff_ne]
      refine ⟨⟨Or.inl c1, c2⟩, ?_⟩
      by_cases e : c = b
      · exact Or.inr (fun z => c3 ⟨e, z⟩)
      · exact Or.inl e
    have φfr : fr (XR b) υ φ := ⟨fun c i hc => by
      simp only [XR, Bool.and_eq_false_iff, decide_eq_false_iff_not] at hc
      exact φo c i (by omega) (by omega) (by omega), p4.2⟩
    have hWφ : WC (b + 7) φ (wl T T.length) := by
      refine ⟨fun t ht => ?_, fun t ht => ?_, ?_, ?_⟩
      · rw [φo _ _ (by omega) (by omega) (by omega), uo _ _ (by omega) (by omega) (by omega) (by omega)]; exact r3.1 t ht
      · rw [φo _ _ (by omega) (by omega) (by omega), uo _ _ (by omega) (by omega) (by omega) (by omega)]; exact r3.2.1 t ht
      · rw [φo _ _ (by omega) (by omega) (by omega), uo _ _ (by omega) (by omega) (by omega) (by omega)]; exact r3.2.2.1
      · rw [φo _ _ (by omega) (by omega) (by omega), uo _ _ (by omega) (by omega) (by omega) (by omega)]; exact r3.2.2.2
    refine q_go hWφ s1 s2 (fun ψ hWψ hfψ => ?_)
    have ψo : ∀ c i, c < b + 7 → ψ.1 c i = φ.1 c i := fun c i hc => hfψ.1 c i (Xv_out (by omega))
    rw [ψo b 0 (by omega), φo b 0 (by omega) (by omega) (by omega), u0, nI_1]
    have ew : wl (T ++ [s]) (T ++ [s]).length = wgo (wl T T.length) s.1 s.2.1 s.2.2 := by
      rw [List.length_append, List.length_singleton]
      show wgo (wl (T ++ _) T.length) _ _ _ = _
      rw [wl_app T _ (Nat.le_refl _), th_last, sg_last, ab_last]
    have elen : (T ++ [s]).length = T.length + 1 := by simp
    refine h1 hlt hV' _ ⟨?_, fun k hk => ?_, ?_, fun t ht => ?_, fun t ht => ?_⟩ (fr_sI (fr_tr (fr_tr ufr φfr) (fr_mono hfψ Xv_R)) _ (XR_in (by omega) (by omega))) (fun j hj => ?_)
    · rw [sI_in, elen]
    · rw [elen] at hk
      rw [sI_out _ _ (by omega), sI_out _ _ (by omega), sI_out _ _ (by omega), sI_out _ _ (by omega), sI_out _ _ (by omega), ψo _ _ (by omega), ψo _ _ (by omega), ψo _ _ (by omega), ψo _ _ (by omega), ψo _ _ (by omega), φo _ _ (by omega) (by omega) (by omega), φo _ _ (by omega) (by omega) (by omega), φo _ _ (by omega) (by omega) (by omega), φo _ _ (by omega) (by omega) (by omega)]
      by_cases e : k = T.length
      · subst e
        rw [w1, w2, w3, w4, p1]
        refine ⟨?_, hx, hy, hg, rfl⟩
        simp [List.getD_eq_getElem?_getD]
      · have hk' : k < T.length := by omega
        rw [uk _ _ e, uk _ _ e, uk _ _ e, uk _ _ e]
        have p5 : φ.1 (b + 5) k = υ.1 (b + 5) k := p4.1 (b + 5) k (by simp [e])
        rw [p5, uk _ _ e, getD_app_lt _ _ _ hk', hw_app T _ hk', hr_app T _ hk', gd_app T _ hk', bf_app T _ hk']
        exact r2 k hk'
    · rw [ew]
      refine ⟨fun t ht => ?_, fun t ht => ?_, ?_, ?_⟩
      · rw [sI_out _ _ (by omega)]; exact hWψ.1 t ht
      · rw [sI_out _ _ (by omega)]; exact hWψ.2.1 t ht
      · rw [sI_out _ _ (by omega)]; exact hWψ.2.2.1
      · rw [sI_out _ _ (by omega)]; exact hWψ.2.2.2
    · rw [sI_out _ _ (by omega), ψo _ _ (by omega), elen]; exact p2 t ht
    · rw [sI_out _ _ (by omega), ψo _ _ (by omega), elen]; exact p3 t ht
    · rw [sI_out _ _ (by omega), ψo _ _ (by omega), φo _ _ (by omega) (by omega) (by omega)]
      exact uk _ _ hj
  have ehw : hw (T ++ [s]) T.length = (wl T T.length).1 s.1 := by unfold hw; rw [wl_app T _ (Nat.le_refl _), th_last]
  have ehr : hr (T ++ [s]) T.length = (wl T T.length).2.1 s.1 := by unfold hr; rw [wl_app T _ (Nat.le_refl _), th_last]
  have x1 : ∀ v : Int32, (sI σ (b + 1) T.length v).1 ((b + 7) + 1) s.1 = hw (T ++ [s]) T.length := fun v => by rw [sI_out _ _ (by omega), ehw]; exact r3.1 _ s1
  have y1 : ∀ v u : Int32, (sI (sI σ (b + 1) T.length v) (b + 2) T.length u).1 ((b + 7) + 2) s.1 = hr (T ++ [s]) T.length := fun v u => by rw [sI_out _ _ (by omega), sI_out _ _ (by omega), ehr]; exact r3.2.1 _ s1
  rw [ewr, x1, y1]
  refine ⟨fun z => ⟨v20, v20, ?_⟩, fun z => ⟨v20, ?_⟩⟩
  · refine fin _ _ 0 _ rfl rfl ?_
    rw [sI_out _ _ (by omega), sI_in, sI_in]
    unfold gd; rw [sg_last, if_neg z]
  · refine fin _ _ 0 _ rfl rfl ?_
    rw [sI_out _ _ (by omega), sI_in]
    unfold gd; rw [sg_last, if_pos z]
