/-! ===== touches lost by chance: the class ===== -/
def frL (σ τ : St) : Prop := τ.1 = σ.1 ∧ ∀ c i, ¬ (c = 58 ∨ c = 59 ∨ c = 60) → τ.2 c i = σ.2 c i
theorem frL_rfl {σ : St} : frL σ σ := ⟨rfl, fun _ _ _ => rfl⟩
theorem frL_tr {σ τ υ : St} (h1 : frL σ τ) (h2 : frL τ υ) : frL σ υ := ⟨h2.1.trans h1.1, fun c i h => (h2.2 c i h).trans (h1.2 c i h)⟩
theorem frL_sL {σ τ : St} (h : frL σ τ) {c i : Nat} (v : Int64) (hc : c = 58 ∨ c = 59 ∨ c = 60) : frL σ (sL τ c i v) := by
  refine ⟨h.1, fun a j q => ?_⟩
  rw [sL_get, if_neg (fun e => q (by rw [e.1]; exact hc))]
  exact h.2 a j q
theorem frL_keep {σ τ : St} (h : frL σ τ) : Keep σ τ := ⟨fun c i _ => by rw [h.1], h.2 0 9 (by omega), h.2 61 36 (by omega)⟩
theorem rowL {b : Nat} {T : Tr} {σ τ : St} (h : τ.1 = σ.1) (hR : RowOK b T σ) : RowOK b T τ := by
  obtain ⟨t1, t2⟩ := τ
  obtain ⟨s1, s2⟩ := σ
  dsimp only at h
  subst h
  exact hR
theorem sL_in (σ : St) (c i : Nat) (v : Int64) : (sL σ c i v).2 c i = v := by rw [sL_get, if_pos ⟨rfl, rfl⟩]
theorem sL_out (σ : St) {c i a j : Nat} (v : Int64) (h : ¬ (a = c ∧ j = i)) : (sL σ c i v).2 a j = σ.2 a j := by rw [sL_get, if_neg h]
theorem q_fillL {q0 n : Nat} {σ : St} {x : Int64} {Q : St → Prop} (hn : n < 1000000) (h : ∀ τ : St, (∀ j, j < n → τ.2 q0 j = x) → τ.1 = σ.1 → (∀ c i, c ≠ q0 → τ.2 c i = σ.2 c i) → Q τ) : m_J7_fill_d0a16 q0 n σ x Q := by
  unfold m_J7_fill_d0a16
  refine bI_i ?_
  refine lpE1 (m_J7_fill_d0a16_L6b q0 n x Q (Int32.ofNat n) (fun σ => m_J7_fill_d0a16_J22 q0 n x Q σ)) (fun _ => rfl) (fun k' τ y => ∃ k, k ≤ n ∧ y = nI k ∧ k' = n - k ∧ (∀ j, j < k → τ.2 q0 j = x) ∧ τ.1 = σ.1 ∧ ∀ c i, c ≠ q0 → τ.2 c i = σ.2 c i) ?_ (n := n) ⟨0, by omega, rfl, rfl, fun j q => by omega, rfl, fun _ _ _ => rfl⟩
  rintro k' τ y Rc ⟨k, hk, rfl, hn', hj, h1, h2⟩ hR
  unfold m_J7_fill_d0a16_L6b
  rw [show Int32.ofNat n = nI n from rfl, nI_le' (by omega) (by omega)]
  refine ⟨fun q => ?_, fun q => ⟨vp_n (by omega) (by omega), ?_⟩⟩
  · have e : k = n := by omega
    subst e
    exact h τ hj h1 h2
  · unfold sLB
    rw [nI_cl (by omega), nI_1]
    refine hR (n - (k + 1)) _ _ (by omega) ⟨k + 1, by omega, rfl, rfl, fun j hj' => ?_, h1, fun c i hc => ?_⟩
    · by_cases e : j = k
      · subst e; exact sL_in _ _ _ _
      · rw [sL_out _ _ (by omega)]; exact hj j (by omega)
    · rw [sL_out _ _ (fun e => hc e.1)]; exact h2 c i hc
theorem fk_wit {T : Tr} (hV : Val T) {c x k t : Nat} (hk : k ≤ T.length) (h : fk T c x k t ≠ 0) : ∃ s, WCd s (nI t) := by
  obtain ⟨j, hj, hf⟩ := smN_pos h
  by_cases e : (tri T c x k j).2.2.1 = t
  · exact ⟨_, e ▸ (tri_code hV c x k hk j hj).2 (fun i => (tri T c x k j).1.testBit i) (fun _ _ => rfl)⟩
  · rw [if_neg e] at hf; exact absurd rfl hf
def gI (T : Tr) (c x k I t : Nat) : Nat := (if t < I then fk T c x k t * x else 0) + smN (fun i => if nxt T k i = t then fk T c x k i * (10 - x) else 0) I
theorem q_spreadTouch {b : Nat} {T : Tr} {σ : St} {c x k : Nat} {Q : St → Prop} (hR : RowOK b T σ) (hV : Val T) (hl : T.length ≤ 20) (hx : x ≤ 10) (hk : k < T.length) (ht : tcof T k c = true) (hn : nn T c k ≤ 9) (h59 : ∀ i, i < 64 → σ.2 59 i = lN (fk T c x k i)) (h : ∀ τ, (∀ i, i < 64 → τ.2 59 i = lN (fk T c x (k + 1) i)) → frL σ τ → τ.2 58 0 = σ.2 58 0 → Q τ) : m_X2_spreadTouch b σ (nI k) (nI x) Q := by
  unfold m_X2_spreadTouch
  have fb : ∀ t, fk T c x k t < 2 ^ 63 := by
    intro t
    have h1 := fk_le T c hx k t
    have h2 : 10 ^ nn T c k ≤ 10 ^ 9 := Nat.pow_le_pow_right (by omega) hn
    have h3 : (10 : Nat) ^ 9 < 2 ^ 63 := by decide
    omega
  refine q_fillL (by omega) (fun σ1 hz h11 h12 => ?_)
  have hf1 : frL σ σ1 := ⟨h11, fun c i hc => h12 c i (by omega)⟩
  refine lpE1 (m_X2_spreadTouch_L11b b (nI k) (nI x) Q (fun σ => m_X2_spreadTouch_J93 b (nI k) (nI x) Q σ)) (fun _ => rfl) (fun m τ y => ∃ I, I ≤ 64 ∧ y = nI I ∧ m = 64 - I ∧ frL σ τ ∧ τ.2 58 0 = σ.2 58 0 ∧ (∀ i, i < 64 → τ.2 59 i = lN (fk T c x k i)) ∧ ∀ t, t < 64 → τ.2 60 t = lN (gI T c x k I t)) ?_ (n := 64) ⟨0, by omega, rfl, rfl, hf1, h12 58 0 (by omega), fun i hi => (h12 59 i (by omega)).trans (h59 i hi), fun t ht2 => hz t ht2⟩
  rintro m τ y Rc ⟨I, hI, rfl, hm, hf, h58, h59t, h60⟩ hRc
  unfold m_X2_spreadTouch_L11b
  rw [show (64 : Int32) = nI 64 from rfl, nI_le' (by omega) (by omega)]
  refine ⟨fun q => ?_, fun q => ⟨vp_n (by omega) (by omega), ?_⟩⟩
  · have e : I = 64 := by omega
    subst e
    unfold m_X2_spreadTouch_J93 bS
    have a60 : ∀ i, i < 64 → (sLf τ 59 (va_cpy (τ.2 60) (τ.2 59) (0 : Int32).toNatClampNeg (0 : Int32).toNatClampNeg (64 : Int32).toNatClampNeg)).2 59 i = lN (fk T c x (k + 1) i) := by
      intro i hi
      show (if 59 = 59 then va_cpy (τ.2 60) (τ.2 59) (0 : Int32).toNatClampNeg (0 : Int32).toNatClampNeg (64 : Int32).toNatClampNeg else τ.2 59) i = _
      rw [if_pos rfl, cl0, show ((64 : Int32)).toNatClampNeg = 64 by decide]
      show (if 0 ≤ i ∧ i < 0 + 64 then τ.2 60 (0 + (i - 0)) else τ.2 59 i) = _
      rw [if_pos (by omega), show 0 + (i - 0) = i by omega, h60 i hi, fk_step hV c x hk ht, gI, if_pos hi]
    refine h _ a60 ⟨hf.1, fun a i ha => ?_⟩ ?_
    · show (if a = 59 then _ else τ.2 a) i = _
      rw [if_neg (by omega)]
      exact hf.2 a i ha
    · exact h58
  have hI64 : I < 64 := by omega
  rw [nI_cl (by omega), h59t I hI64, lg_cmp_eq, show (0 : Int64) = lN 0 from rfl, pk_lEQ (fb I) (by decide)]
  refine ⟨fun z => ?_, fun z => ⟨vp_n (by omega) (by omega), vp_n (by omega) (by omega), vp_n (by omega) (by omega), ?_⟩⟩
  · rw [nI_1]
    refine hRc (64 - (I + 1)) _ _ (by omega) ⟨I + 1, by omega, rfl, rfl, hf, h58, h59t, fun t ht2 => ?_⟩
    rw [h60 t ht2, gI, gI, smN, z]
    congr 1
    by_cases e : t = I
    · subst e
      rw [if_neg (by omega), if_pos (by omega), z]
      split <;> omega
    · by_cases e2 : t < I
      · rw [if_pos e2, if_pos (by omega)]; split <;> omega
      · rw [if_neg e2, if_neg (by omega)]; split <;> omega
  · unfold sLB
    obtain ⟨s, hs⟩ := fk_wit hV (by omega) z
    obtain ⟨nx1, nx2⟩ := nxt_ok hV hk hI64 hs
    have hRu : RowOK b T (sL τ 60 I (τ.2 60 I + lN (fk T c x k I) * (nI x).toInt64)) := rowL hf.1 hR
    refine q_touch hRu hV hl hk hs (fun y hy => ?_)
    have ey : y = nI (nxt T k I) := hy.cd.1.trans nx1.cd.1.symm
    rw [ey, pk_andN (by omega) 6 (by decide), Nat.mod_eq_of_lt nx2]
    refine ⟨vp_n (by omega) (by omega), vp_n (by omega) (by omega), vp_n (by omega) (by omega), ?_⟩
    rw [nI_cl (by omega), sL_out (a := 59) (j := I) (c := 60) _ _ (by omega), h59t I hI64, h60 I hI64, nI_l (by omega), show (10 : Int32) = nI 10 from rfl, pk_sub hx, nI_l (by omega), lN_mul, lN_mul, lN_add, nI_1]
    have f1 : frL σ (sL τ 60 I (lN (gI T c x k I I + fk T c x k I * x))) := frL_sL hf _ (by omega)
    refine hRc (64 - (I + 1)) _ _ (by omega) ⟨I + 1, by omega, rfl, rfl, frL_sL f1 _ (by omega), ?_, fun i hi => ?_, fun t ht2 => ?_⟩
    · rw [sL_out _ _ (by omega), sL_out _ _ (by omega)]; exact h58
    · rw [sL_out _ _ (by omega), sL_out _ _ (by omega)]; exact h59t i hi
    · -- the new place
      have g1 : ∀ t, t < 64 → (sL τ 60 I (lN (gI T c x k I I + fk T c x k I * x))).2 60 t = lN (gI T c x k I t + (if t = I then fk T c x k I * x else 0)) := by
        intro t ht3
        by_cases e : t = I
        · subst e; rw [sL_in, if_pos rfl]
        · rw [sL_out _ _ (by omega), if_neg e, h60 t ht3, Nat.add_zero]
      have g2 : gI T c x k (I + 1) t = gI T c x k I t + (if t = I then fk T c x k I * x else 0) + (if nxt T k I = t then fk T c x k I * (10 - x) else 0) := by
        rw [gI, gI, smN]
        by_cases e : t = I
        · subst e
          rw [if_pos (show t < t + 1 by omega), if_neg (show ¬ t < t by omega), if_pos rfl]; omega
        · rw [if_neg e]
          by_cases e2 : t < I
          · rw [if_pos e2, if_pos (by omega)]; omega
          · rw [if_neg e2, if_neg (by omega)]; omega
      rw [g2]
      by_cases e : nxt T k I = t
      · subst e
        rw [sL_in, g1 _ nx2, lN_add, if_pos rfl]
      · rw [sL_out _ _ (fun w => e w.2.symm), g1 t ht2, if_neg e, Nat.add_zero]
theorem q_spread {b : Nat} {T : Tr} {σ : St} {c x : Nat} {Q : St → Prop} (hR : RowOK b T σ) (hV : Val T) (hl : T.length ≤ 20) (hc : c < 4) (hx : x ≤ 10) (hn : nn T c T.length ≤ 9) (h : ∀ τ, τ.2 59 48 = lN (fk T c x T.length 48) → τ.2 58 0 = lN (10 ^ nn T c T.length) → frL σ τ → Q τ) : m_X2_spread b σ (nI c) (nI x) Q := by
  unfold m_X2_spread
  have nm : ∀ k, k ≤ T.length → nn T c k ≤ nn T c T.length := by
    intro k hk
    have : ∀ d, nn T c k ≤ nn T c (k + d) := by
      intro d
      induction d with
      | zero => exact Nat.le_refl _
      | succ d ih => show nn T c k ≤ nn T c (k + d) + _; omega
    have := this (T.length - k)
    rwa [show k + (T.length - k) = T.length by omega] at this
  refine q_fillL (by omega) (fun σ1 hz h11 h12 => ⟨vp_n (n := 0) (by omega) (by omega), ?_⟩)
  unfold sLB
  rw [cl0]
  have f3 : frL σ (sL (sL σ1 59 0 1) 58 0 1) := frL_sL (frL_sL ⟨h11, fun c i hc => h12 c i (by omega)⟩ _ (by omega)) _ (by omega)
  refine lpE1 (m_X2_spread_L23b b (nI c) (nI x) Q (fun σ => m_X2_spread_J68 b (nI c) (nI x) Q σ)) (fun _ => rfl) (fun m τ y => ∃ k, k ≤ T.length ∧ y = nI k ∧ m = T.length - k ∧ frL σ τ ∧ τ.2 58 0 = lN (10 ^ nn T c k) ∧ ∀ i, i < 64 → τ.2 59 i = lN (fk T c x k i)) ?_ (n := T.length) ⟨0, by omega, rfl, rfl, f3, sL_in _ _ _ _, fun i hi => ?_⟩
  rotate_left
  · rw [sL_out _ _ (by omega)]
    by_cases e : i = 0
    · subst e; rw [sL_in]; rfl
    · rw [sL_out _ _ (by omega), hz i hi]
      show (0 : Int64) = lN (0 + (if 0 = i then 1 else 0))
      rw [if_neg (by omega)]; rfl
  rintro m τ y Rc ⟨k, hk, rfl, hm, hf, h58, h59⟩ hRc
  unfold m_X2_spread_L23b
  have hRt := rowL hf.1 hR
  rw [hRt.1, nI_le' (by omega) (by omega)]
  refine ⟨fun q => ?_, fun q => ?_⟩
  · have e : k = T.length := by omega
    subst e
    exact h τ (h59 48 (by omega)) h58 hf
  have hkl : k < T.length := by omega
  refine r_touchesAt hRt hV hl hkl hc ?_
  cases ht : tcof T k c
  · refine ⟨fun _ => ?_, fun z => absurd rfl z⟩
    rw [nI_1]
    refine hRc (T.length - (k + 1)) _ _ (by omega) ⟨k + 1, by omega, rfl, rfl, hf, by rw [nn_n ht]; exact h58, fun i hi => by rw [fk_no ht]; exact h59 i hi⟩
  · refine ⟨fun z => absurd z (by decide), fun _ => ?_⟩
    have := nm k hk
    refine q_spreadTouch hRt hV hl hx hkl ht (by omega) h59 (fun υ k59 kf k58 => ?_)
    unfold sLB
    rw [nI_1, k58, h58, show (10 : Int64) = lN 10 from rfl, lN_mul]
    refine hRc (T.length - (k + 1)) _ _ (by omega) ⟨k + 1, by omega, rfl, rfl, frL_sL (frL_tr hf kf) _ (by omega), ?_, fun i hi => ?_⟩
    · rw [sL_in, nn_y ht, Nat.pow_succ]
    · rw [sL_out _ _ (by omega)]; exact k59 i hi
/-! ===== the reference; lost ===== -/
theorem p_mine {σ : St} {T : Tr} {c : Nat} {a2 a3 : Int32} {Q : Int32 → St → Prop} {K : St → Int32 → Prop} (hN : NowOK 0 T σ) (hB : Bnd T) (hc : c < 4) (h : K σ (nI (mn T c T.length))) : ∃ f, m_X9_lost_L30 (nI c) a2 a3 Q K f σ 0 0 := by
  have hl := hB.1
  refine lpE2 (m_X9_lost_L30b (nI c) a2 a3 Q K) (fun _ => rfl) (fun m τ x y => ∃ k, k ≤ T.length ∧ y = nI k ∧ m = T.length - k ∧ τ = σ ∧ x = nI (mn T c k)) ?_ (n := T.length) ⟨0, by omega, rfl, rfl, rfl, rfl⟩
  rintro m τ x y Rc ⟨k, hk, rfl, hm, rfl, rfl⟩ hRc
  unfold m_X9_lost_L30b
  refine p_many (L := 0) hN (by omega) ?_
  rw [nI_le' (by omega) (by omega)]
  refine ⟨fun q => ?_, fun q => ?_⟩
  · have e : k = T.length := by omega
    subst e
    exact h
  refine p_isTouchOf (L := 0) hN hB (by omega) (by omega) hc ?_
  rw [nI_1]
  cases ht : tcof T k c
  · refine ⟨fun _ => bI_i ?_, fun z => absurd rfl z⟩
    rw [or_0]
    exact hRc (T.length - (k + 1)) _ _ _ (by omega) ⟨k + 1, by omega, rfl, rfl, rfl, by rw [mn_n ht]⟩
  · refine ⟨fun z => absurd z (by decide), fun _ => bI_i ?_⟩
    have bb : ((1 : Int32) <<< (nI k &&& 31)) = bitI k := rfl
    rw [bb, nI_or_bit (mn_lt T c k) (by omega)]
    exact hRc (T.length - (k + 1)) _ _ _ (by omega) ⟨k + 1, by omega, rfl, rfl, rfl, by rw [mn_y ht]⟩
theorem p_weight {σ : St} {n x o : Nat} {a1 a3 x4 x6 x7 s : Int32} {Q : Int32 → St → Prop} {K : St → Int32 → Prop} (hx : x ≤ 10) (hn : n ≤ 20) (ho : cntb s 20 = o) (hon : o ≤ n) (h : K σ (nI (x ^ o * (10 - x) ^ (n - o)))) : ∃ f, m_X9_lost_L113 a1 (nI x) a3 Q x4 (nI n) x6 x7 s K f σ 1 0 := by
  have o20 := cntb_le s 20
  refine lpE2 (m_X9_lost_L113b a1 (nI x) a3 Q x4 (nI n) x6 x7 s K) (fun _ => rfl) (fun m τ y z => ∃ i, i ≤ n ∧ z = nI i ∧ m = n - i ∧ τ = σ ∧ y = nI (x ^ (min i o) * (10 - x) ^ (i - min i o))) ?_ (n := n) ⟨0, by omega, rfl, rfl, rfl, ?_⟩
  rotate_left
  · rw [Nat.zero_min]; rfl
  rintro m τ y z Rc ⟨i, hi, rfl, hm, rfl, rfl⟩ hRc
  unfold m_X9_lost_L113b
  rw [nI_le' (by omega) (by omega)]
  refine ⟨fun q => ?_, fun q => p_ones ?_⟩
  · have e : i = n := by omega
    subst e
    rw [Nat.min_eq_right hon]
    exact h
  rw [ho, nI_le' (by omega) (by omega), show (10 : Int32) = nI 10 from rfl, pk_sub hx, pk_mul, pk_mul, nI_1]
  refine ⟨fun z => bI_i (hRc (n - (i + 1)) _ _ _ (by omega) ⟨i + 1, by omega, rfl, rfl, rfl, ?_⟩), fun z => bI_i (hRc (n - (i + 1)) _ _ _ (by omega) ⟨i + 1, by omega, rfl, rfl, rfl, ?_⟩)⟩
  · rw [Nat.min_eq_right z, Nat.min_eq_right (by omega), show i + 1 - o = (i - o) + 1 by omega, Nat.pow_succ, Nat.mul_assoc]
  · rw [Nat.min_eq_left (by omega), Nat.min_eq_left (by omega), Nat.sub_self, Nat.sub_self, Nat.pow_succ, Nat.pow_zero, Nat.mul_one, Nat.mul_one]
theorem k_lost {σ : St} (h : Inv σ) (a b c3 : Int32) : m_X8_lost σ a b c3 (fun r σ1 => m_X9_lost σ1 a b c3 (fun r2 σ2 => r = r2 ∧ Inv σ2)) := by
  obtain ⟨X, n, T, B, nx, hI⟩ := h
  have hI0 : Inv σ := ⟨X, n, T, B, nx, hI⟩
  obtain ⟨i1, i2, i3, i4, i5, i6, i7, i8, i9, i10, i11⟩ := id hI
  have hB := i5.bnd i6
  unfold m_X8_lost
  rcases arg4 a with ⟨c, hc, rfl⟩ | ha
  rotate_left
  · refine q_one4n ha ⟨fun z => absurd rfl z, fun _ => ?_⟩
    unfold m_X9_lost
    exact p_isFour_n ha ⟨fun z => absurd rfl z, fun _ => ⟨rfl, hI0⟩⟩
  refine q_one4 hc ⟨fun _ => ?_, fun z => absurd z (by decide)⟩
  have e10 : (10 : Int64) = (nI 10).toInt64 := by decide
  have mb : ¬ ((0 : Int64) ≤ b.toInt64 ∧ b.toInt64 ≤ (nI 10).toInt64) → m_X9_lost σ (nI c) b c3 (fun r2 σ2 => -2 = r2 ∧ Inv σ2) := by
    intro hb
    unfold m_X9_lost
    refine p_isFour hc ⟨fun _ => ?_, fun z => absurd z (by decide)⟩
    rw [e10]
    exact p_in (fun h1 h2 => absurd ⟨h1, h2⟩ hb) (fun _ => ⟨fun z => absurd rfl z, fun _ => ⟨rfl, hI0⟩⟩)
  rcases arg_le b (n := 10) (by omega) with ⟨x, hx, rfl⟩ | ⟨hb1, hb2⟩
  rotate_left
  · refine ⟨fun _ => mb hb2, fun q => ⟨fun q2 => ?_, fun _ => mb hb2⟩⟩
    rcases hb1 with w | w
    · exact absurd w q
    · exact absurd q2 w
  have in10 : (0 : Int64) ≤ (nI x).toInt64 ∧ (nI x).toInt64 ≤ (nI 10).toInt64 := by
    rw [show (0 : Int64) = (0 : Int32).toInt64 by decide, i64_le, i64_le]
    exact ⟨nI_pos' (by omega), nI_le hx (by omega)⟩
  refine ⟨fun q => absurd q (nI_pos (by omega)), fun _ => ⟨fun _ => ?_, fun q => absurd (nI_le hx (by omega)) q⟩⟩
  have nl := nn_le T c T.length
  -- up to the number of touches
  have M : ∀ (τ : St) (r : Int32), InvP X n T B nx τ → m_X9_lost_J70 (nI c) (nI x) c3 (fun r2 σ2 => r = r2 ∧ Inv σ2) τ (nI (mn T c T.length)) → m_X9_lost τ (nI c) (nI x) c3 (fun r2 σ2 => r = r2 ∧ Inv σ2) := by
    intro τ r hIt hJ
    unfold m_X9_lost
    refine p_isFour hc ⟨fun _ => ?_, fun z => absurd z (by decide)⟩
    rw [e10]
    refine p_in (fun _ _ => ⟨fun _ => ?_, fun z => absurd z (by decide)⟩) (fun z => absurd in10 z)
    exact p_mine hIt.2.2.2.1 hB hc hJ
  have mc := mn_cnt T c T.length i6
  rw [i3.1]
  refine q_touches i3 i5 i6 hc (Nat.le_refl _) ?_
  rw [nn_wf, show (9 : Int32) = nI 9 from rfl, nI_le' (by omega) (by omega)]
  refine ⟨fun n9 => ?_, fun n9 => ?_⟩
  rotate_left
  · refine M σ _ hI ?_
    unfold m_X9_lost_J70
    refine p_ones ?_
    rw [mc, show (9 : Int32) = nI 9 from rfl, nI_le' (by omega) (by omega)]
    exact ⟨fun z => absurd z n9, fun _ => ⟨rfl, hI0⟩⟩
  refine q_spread i3 i5 i6 hc hx n9 (fun σ1 s48 s58 f1 => ?_)
  have hI1 := hI.keep (frL_keep f1)
  unfold m_X2_ofFlagged
  dsimp only
  rw [show ((48 : Int32)).toNatClampNeg = 48 by decide, s48, s58]
  have w9 : 10 ^ nn T c T.length ≤ 10 ^ 9 := Nat.pow_le_pow_right (by omega) n9
  have w0 : 0 < 10 ^ nn T c T.length := Nat.pow_pos (by omega)
  have fl := fk_le T c hx T.length 48
  have t9 : (10 : Nat) ^ 9 < 2147483648 := by decide
  refine q_fraction (by omega) (by omega) w0 ?_
  refine M σ1 _ hI1 ?_
  unfold m_X9_lost_J70
  refine p_ones ?_
  rw [mc, show (9 : Int32) = nI 9 from rfl, nI_le' (by omega) (by omega)]
  refine ⟨fun _ => ?_, fun z => absurd n9 z⟩
  refine p_findHeld (L := 0) hI1.2.2.2.1 hB (by omega) (fun σ2 hW hH hf2 => ?_)
  have hI2 := hI1.keep (hf2.keep Xh_keep)
  have p0 : 0 < 2 ^ nn T c T.length := Nat.two_pow_pos _
  obtain ⟨tp0, tp1, tp2⟩ := tri_prev T c x T.length
  have wS := tri_sum T c hx T.length
  generalize hr : (if c3 = 0 then nI (10 ^ nn T c T.length / Nat.gcd (fk T c x T.length 48) (10 ^ nn T c T.length)) else nI (fk T c x T.length 48 / Nat.gcd (fk T c x T.length 48) (10 ^ nn T c T.length))) = r
  refine lpE3 (m_X9_lost_L102b (nI c) (nI x) c3 (fun r2 σ2 => r = r2 ∧ Inv σ2) (nI (mn T c T.length)) (nI (nn T c T.length)) (fun σ x6 x7 => m_X9_lost_J212 (nI c) (nI x) c3 (fun r2 σ2 => r = r2 ∧ Inv σ2) σ x6 x7)) (fun _ => rfl) (fun m τ y z w => fr XW σ2 τ ∧ ((m = 0 ∧ w = -1 ∧ y = nI (fk T c x T.length 48) ∧ z = nI (10 ^ nn T c T.length)) ∨ ∃ j S W, m = j + 1 ∧ j < 2 ^ nn T c T.length ∧ w = nI (tri T c x T.length j).1 ∧ y = nI S ∧ z = nI W ∧ S + smN (fun j => if (tri T c x T.length j).2.2.1 = 48 then (tri T c x T.length j).2.2.2 else 0) (j + 1) = fk T c x T.length 48 ∧ W + smN (fun j => (tri T c x T.length j).2.2.2) (j + 1) = 10 ^ nn T c T.length)) ?_ (n := 2 ^ nn T c T.length - 1 + 1) ⟨fr_rfl, Or.inr ⟨2 ^ nn T c T.length - 1, 0, 0, rfl, by omega, by rw [tp1], rfl, rfl, ?_, ?_⟩⟩
  rotate_left
  · rw [show 2 ^ nn T c T.length - 1 + 1 = 2 ^ nn T c T.length by omega, Nat.zero_add]; rfl
  · rw [show 2 ^ nn T c T.length - 1 + 1 = 2 ^ nn T c T.length by omega, Nat.zero_add]; exact wS
  rintro m τ y z w Rc ⟨hf, hh⟩ hRc
  have hIt := hI2.keep (hf.keep XW_keep)
  unfold m_X9_lost_L102b
  rcases hh with ⟨rfl, rfl, rfl, rfl⟩ | ⟨j, S, W, rfl, hj, rfl, rfl, rfl, hS, hWs⟩
  · refine ⟨fun _ => ?_, fun z => absurd (by decide) z⟩
    unfold m_X9_lost_J212
    refine p_common (by omega) (by omega) ?_
    have g0 : 0 < Nat.gcd (fk T c x T.length 48) (10 ^ nn T c T.length) := Nat.gcd_pos_of_pos_right _ w0
    have g1 : Nat.gcd (fk T c x T.length 48) (10 ^ nn T c T.length) ≤ 10 ^ nn T c T.length := Nat.gcd_le_right _ w0
    have ng : ¬ nI (Nat.gcd (fk T c x T.length 48) (10 ^ nn T c T.length)) = 0 := by
      rw [show (0 : Int32) = nI 0 from rfl, nI_eq' (by omega) (by omega)]; omega
    refine ⟨fun z2 => ⟨ng, ?_, X, n, T, B, nx, hIt⟩, fun z2 => ⟨ng, ?_, X, n, T, B, nx, hIt⟩⟩
    · rw [← hr, if_pos z2, pk_div (by omega) g0 (by omega)]
    · rw [← hr, if_neg z2, pk_div (by omega) g0 (by omega)]
  · obtain ⟨tl1, tl2⟩ := tri_lt T c x T.length j hj
    have b20 : 2 ^ T.length ≤ 2 ^ 20 := Nat.pow_le_pow_right (by omega) i6
    have t20 : (2 : Nat) ^ 20 < 2147483648 := by decide
    refine ⟨fun q => absurd q (nI_pos (by omega)), fun _ => ?_⟩
    refine p_weight hx (by omega) (tri_cnt T c x T.length i6 j hj) tl2 ?_
    unfold m_X9_lost_J149
    refine p_many (L := 0) hIt.2.2.2.1 (by omega) ?_
    refine p_watchCell (L := 0) hIt.2.2.2.1 hB (hH.fr hf (fun _ => rfl) (fun _ => rfl)) (by omega) hc (Nat.le_refl _) (fun υ hWc hfu => bI_i ?_)
    rw [← tri_wt T c x T.length j hj]
    obtain ⟨cd1, cd2⟩ := tri_code i5 c x T.length (Nat.le_refl _) j hj
    have wcd := cd2 (bt (nI (tri T c x T.length j).1)) (fun i hi => by rw [bt_nI, decide_eq_true (by omega), Bool.true_and])
    have fi := flg_iff T c 15 (bt (nI (tri T c x T.length j).1)) T.length (by omega)
    have c48 : (wf T c 15 (bt (nI (tri T c x T.length j).1)) T.length).2.2.2.1 ≠ -9 ↔ (tri T c x T.length j).2.2.1 = 48 := by
      rw [fi, ← wcd.flag, show (48 : Int32) = nI 48 from rfl, nI_eq' (by omega) (by omega)]
    rw [hWc.2.2.2.1]
    have J : ∀ v : Nat, v = (if (tri T c x T.length j).2.2.1 = 48 then (tri T c x T.length j).2.2.2 else 0) → m_X9_lost_J188 (nI c) (nI x) c3 (fun r2 σ2 => r = r2 ∧ Inv σ2) (nI (mn T c T.length)) (nI (nn T c T.length)) (fun σ x6 x7 => m_X9_lost_J212 (nI c) (nI x) c3 (fun r2 σ2 => r = r2 ∧ Inv σ2) σ x6 x7) Rc υ (nI W + nI (tri T c x T.length j).2.2.2) (nI (tri T c x T.length j).1) (nI S) (nI v) := by
      intro v hv
      unfold m_X9_lost_J188
      refine bI_i ?_
      rw [nI_add, nI_add, show (0 : Int32) = nI 0 from rfl, nI_eq' (by omega) (by omega)]
      rw [smN, ← hv] at hS
      rw [smN] at hWs
      have hfo := fr_tr hf hfu
      refine ⟨fun z => bI_i ?_, fun z => ?_⟩
      · have j0 : 0 < j := by
          refine Nat.pos_of_ne_zero (fun e => z ?_)
          rw [e]; exact tp0
        obtain ⟨tj1, tj2⟩ := tp2 j j0 hj
        have e1 : nI (tri T c x T.length j).1 - 1 = nI ((tri T c x T.length j).1 - 1) := by rw [show (1 : Int32) = nI 1 from rfl, pk_sub (by omega)]
        rw [e1, nI_and, tj2]
        refine hRc (j - 1 + 1) _ _ _ _ (by omega) ⟨hfo, Or.inr ⟨j - 1, S + v, W + (tri T c x T.length j).2.2.2, rfl, by omega, rfl, rfl, rfl, ?_, ?_⟩⟩
        · rw [show j - 1 + 1 = j by omega]; omega
        · rw [show j - 1 + 1 = j by omega]; omega
      · have j0 : j = 0 := by
          refine Classical.byContradiction (fun e => ?_)
          have := (tp2 j (by omega) hj).1
          omega
        subst j0
        refine hRc 0 _ _ _ _ (by omega) ⟨hfo, Or.inl ⟨rfl, rfl, ?_, ?_⟩⟩
        · congr 1; rw [smN] at hS; omega
        · congr 1; rw [smN] at hWs; omega
    refine ⟨fun z => J _ (by rw [if_pos (c48.mp z)]), fun z => J 0 ?_⟩
    rw [if_neg (fun w => (c48.mpr w) z)]
