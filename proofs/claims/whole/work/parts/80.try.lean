/-! ===== what is told is tried ===== -/
def vB (T : Tr) : Nat → Bool
  | 0 => true
  | k + 1 => vB T k && (decide (th T k < 4) && (decide (sg T k < 7) && (decide (ab T k < 4) && okS (wl T k) (th T k) (sg T k) (ab T k))))
theorem vB_iff (T : Tr) : ∀ n, vB T n = true ↔ ∀ k, k < n → th T k < 4 ∧ sg T k < 7 ∧ ab T k < 4 ∧ okS (wl T k) (th T k) (sg T k) (ab T k) = true
  | 0 => by simp [vB]
  | n + 1 => by
    rw [vB, Bool.and_eq_true, vB_iff T n, Bool.and_eq_true, Bool.and_eq_true, Bool.and_eq_true, decide_eq_true_eq, decide_eq_true_eq, decide_eq_true_eq]
    constructor
    · rintro ⟨a, b⟩ k hk
      by_cases e : k = n
      · subst e; exact b
      · exact a k (by omega)
    · intro a
      exact ⟨fun k hk => a k (by omega), a n (by omega)⟩
def vT (T : Tr) : Bool := vB T T.length
theorem vT_iff (T : Tr) : vT T = true ↔ Val T := vB_iff T T.length
def so (T : Tr) (how two d : Nat) : Bool :=
  if how = 3 then decide (two % 10 = 0) && (decide (two / 10 < 4) && decide ((wf T (two / 10) 15 (fun _ => false) T.length).1 = d))
  else if how = 4 then decide (two % 10 = 0) && (decide (two / 10 < 4) && (decide (d < 2) && (decide ((wf T (two / 10) 15 (fun _ => false) T.length).2.2.2.1 ≠ -9) == decide (d = 1))))
  else if how = 5 then decide (two = 0) && !decide (fsb (RC T) < nI d)
  else if how = 6 then decide (two < T.length) && (decide (d < 4) && bt (hw T two ||| hr T two) d)
  else false
def tryT (T : Tr) (how two d : Nat) : Option Tr :=
  if how = 1 then (if d = 0 ∧ two < T.length ∧ vT (T.eraseIdx two) = true then some (T.eraseIdx two) else none)
  else if how = 2 then (if d = 0 ∧ two + 1 < T.length ∧ vT (swp T two) = true then some (swp T two) else none)
  else if so T how two d then some T else none
theorem tryT_ok {T U : Tr} {how two d : Nat} (hV : Val T) (hl : T.length ≤ 20) (h : tryT T how two d = some U) : Val U ∧ U.length ≤ 20 := by
  unfold tryT at h
  split at h
  · split at h
    · rename_i q
      cases h
      exact ⟨(vT_iff _).mp q.2.2, by rw [erase_len T q.2.1]; omega⟩
    · cases h
  · split at h
    · split at h
      · rename_i q
        cases h
        exact ⟨(vT_iff _).mp q.2.2, by rw [swp_len]; exact hl⟩
      · cases h
    · split at h
      · cases h; exact ⟨hV, hl⟩
      · cases h
theorem q_isCellSo {T : Tr} {σ : St} {two d fl : Nat} {Q : Int32 → St → Prop} (hR : RowOK 13 T σ) (hV : Val T) (hl : T.length ≤ 20) (ht : two < 100) (hd : d < 10) (hf : fl < 2) (h : Q (if so T (3 + fl) two d then 1 else 0) σ) : m_X8_isCellSo σ (nI two) (nI fl) (nI d) Q := by
  unfold m_X8_isCellSo
  refine bI_i ?_
  rw [show (10 : Int32) = nI 10 from rfl, pk_rem (by omega) (by omega) (by omega), pk_div (by omega) (by omega) (by omega), show (0 : Int32) = nI 0 from rfl, nI_eq' (by omega) (by omega), show (4 : Int32) = nI 4 from rfl, nI_lt' (by omega) (by omega), nI_eq' (by omega) (by omega)]
  unfold so at h
  have hf2 : fl = 0 ∨ fl = 1 := by omega
  refine ⟨fun z => ?_, fun z => ⟨fun z2 => ?_, fun z2 => ?_⟩⟩
  · show Q 0 σ
    rcases hf2 with rfl | rfl <;> simpa [z] using h
  · rw [hR.1]
    refine q_watch (u := fun _ => false) hR hV hl z2 (Nat.le_refl _) (none9 T hl) (fun x hx => ?_)
    have st4 := hx.st.2
    have fi := flg_iff T (two / 10) 15 (fun _ => false) T.length (by omega)
    refine ⟨fun z3 => ?_, fun z3 => ?_⟩
    · subst z3
      unfold m_X1_stateOf m_X8_isCellSo_J67
      dsimp only
      rw [hx.st.1, nI_eq' (by omega) (by omega)]
      refine ⟨fun w => ?_, fun w => ?_⟩
      · simpa [z, z2, w] using h
      · simpa [z, z2, w] using h
    · have f1 : fl = 1 := by omega
      subst f1
      unfold m_X8_isCellSo_J67
      rw [hx.flag, ← fi, nI_eq' (by omega) (by omega), show (1 : Int32) = nI 1 from rfl, nI_eq' (by omega) (by omega)]
      refine ⟨fun w => ⟨fun w2 => ?_, fun w2 => ?_⟩, fun w => ⟨fun w2 => ?_, fun w2 => ?_⟩⟩
      · have w' : (wf T (two / 10) 15 (fun _ => false) T.length).2.2.2.1 = -9 := Classical.byContradiction w
        by_cases d1 : d = 1
        · simpa [z, z2, w', d1] using h
        · have : ¬ d < 2 := by omega
          simpa [z, z2, this] using h
      · have w' : (wf T (two / 10) 15 (fun _ => false) T.length).2.2.2.1 = -9 := Classical.byContradiction w
        show Q 1 σ
        simpa [z, z2, w', ← w2] using h
      · by_cases d1 : d = 0
        · simpa [z, z2, w, d1] using h
        · have : ¬ d < 2 := by omega
          simpa [z, z2, this] using h
      · show Q 1 σ
        simpa [z, z2, w, ← w2] using h
  · show Q 0 σ
    rcases hf2 with rfl | rfl <;> simpa [z2] using h
theorem q_areFeasible {T : Tr} {σ : St} {d : Nat} {Q : Int32 → St → Prop} (hR : RowOK 13 T σ) (hV : Val T) (hl : T.length ≤ 20) (h : ∀ τ, RowOK 13 T τ → Keep σ τ → Q (if !decide (fsb (RC T) < nI d) then 1 else 0) τ) : m_X8_areFeasible σ (nI d) Q := by
  unfold m_X8_areFeasible
  refine q_find (by omega) hR hV hl (fun τ hs hf => q_feasible hs ?_)
  have hRt : RowOK 13 T τ := hR.fr hf (fun c i h1 h2 => by
    simp only [XfC, XeC, XgC, Bool.or_eq_false_iff, Bool.and_eq_false_iff, beq_eq_false_iff_ne]; omega)
  have hQ := h τ hRt (hf.keep XfC_keep)
  refine ⟨fun z => ?_, fun z => ?_⟩
  · simpa [z] using hQ
  · simpa [z] using hQ
theorem q_canBe {T : Tr} {σ : St} {v : Nat} {Q : Int32 → St → Prop} (hR : RowOK 13 T σ) (hV : Val T) (hl : T.length ≤ 20) (hv : v < 10000) (h1 : ∀ U τ, tryT T (v / 1000) (v / 10 % 100) (v % 10) = some U → RowOK 13 U τ → Keep σ τ → Q 1 τ) (h0 : tryT T (v / 1000) (v / 10 % 100) (v % 10) = none → ∀ τ, Keep σ τ → Q 0 τ) : m_X8_canBe σ (nI v) Q := by
  unfold m_X8_canBe
  refine bI_i (bI_i ?_)
  rw [show (10 : Int32) = nI 10 from rfl, pk_rem (a := v) (d := 10) (by omega) (by omega) (by omega), pk_div (d := 10) (by omega) (by omega) (by omega), show (100 : Int32) = nI 100 from rfl, pk_rem (by omega) (by omega) (by omega), show (1000 : Int32) = nI 1000 from rfl, pk_div (d := 1000) (by omega) (by omega) (by omega)]
  have hh : v / 1000 < 10 := by omega
  have htw : v / 10 % 100 < 100 := by omega
  have hdd : v % 10 < 10 := by omega
  generalize v / 1000 = how at *
  generalize v / 10 % 100 = two at *
  generalize v % 10 = d at *
  have z0 : (0 : Int32) = nI 0 := rfl
  refine ⟨fun q => ?_, fun q => ?_, fun q => ?_, fun q => ?_, fun q => ?_, fun q => ?_, fun q => ?_⟩
  · rw [show (1 : Int32) = nI 1 from rfl, nI_eq' (by omega) (by omega)] at q
    subst q
    rw [z0, nI_eq' (by omega) (by omega)]
    refine ⟨fun z => h0 ?_ σ Keep.rfl', fun z => ?_⟩
    · simp [tryT, z]
    · refine q_takeOut hR hV hl (fun k hk e hvv τ hRt hf => ⟨fun w => absurd w (by decide), fun _ => ?_⟩) (fun hno τ hRt hf => ⟨fun _ => ?_, fun w => absurd rfl w⟩)
      · rw [nI_eq' (by omega) (by omega)] at e
        subst e
        exact h1 (T.eraseIdx two) τ (by simp [tryT, z, hk, (vT_iff _).mpr hvv]) hRt (hf.keep XR13_keep)
      · refine h0 ?_ τ (hf.keep XR13_keep)
        unfold tryT
        rw [if_pos rfl, if_neg]
        rintro ⟨_, w1, w2⟩
        exact hno two w1 rfl ((vT_iff _).mp w2)
  · rw [show (2 : Int32) = nI 2 from rfl, nI_eq' (by omega) (by omega)] at q
    subst q
    rw [z0, nI_eq' (by omega) (by omega)]
    refine ⟨fun z => h0 ?_ σ Keep.rfl', fun z => ?_⟩
    · simp [tryT, z]
    · refine q_changePlaces hR hV hl (fun k hk e hvv τ hRt hf => ⟨fun w => absurd w (by decide), fun _ => ?_⟩) (fun hno τ hRt hf => ⟨fun _ => ?_, fun w => absurd rfl w⟩)
      · rw [nI_eq' (by omega) (by omega)] at e
        subst e
        exact h1 (swp T two) τ (by simp [tryT, z, hk, (vT_iff _).mpr hvv]) hRt (hf.keep XR13_keep)
      · refine h0 ?_ τ (hf.keep XR13_keep)
        unfold tryT
        rw [if_neg (by omega), if_pos rfl, if_neg]
        rintro ⟨_, w1, w2⟩
        exact hno two w1 rfl ((vT_iff _).mp w2)
  · rw [show (3 : Int32) = nI 3 from rfl, nI_eq' (by omega) (by omega)] at q
    subst q
    refine q_isCellSo (fl := 0) hR hV hl htw hdd (by omega) ⟨bool01 _, ?_⟩
    cases hs : so T 3 two d
    · exact h0 (by simp [tryT, hs]) σ Keep.rfl'
    · exact h1 T σ (by simp [tryT, hs]) hR Keep.rfl'
  · rw [show (4 : Int32) = nI 4 from rfl, nI_eq' (by omega) (by omega)] at q
    subst q
    refine q_isCellSo (fl := 1) hR hV hl htw hdd (by omega) ⟨bool01 _, ?_⟩
    cases hs : so T 4 two d
    · exact h0 (by simp [tryT, hs]) σ Keep.rfl'
    · exact h1 T σ (by simp [tryT, hs]) hR Keep.rfl'
  · rw [show (5 : Int32) = nI 5 from rfl, nI_eq' (by omega) (by omega)] at q
    subst q
    rw [z0, nI_eq' (by omega) (by omega)]
    refine ⟨fun z => h0 (by simp [tryT, so, z]) σ Keep.rfl', fun z => ?_⟩
    refine q_areFeasible hR hV hl (fun τ hRt hk => ?_)
    cases hs : !decide (fsb (RC T) < nI d)
    · refine ⟨fun _ => h0 ?_ τ hk, fun w => absurd rfl w⟩
      have : so T 5 two d = false := by
        show (decide (two = 0) && !decide (fsb (RC T) < nI d)) = false
        rw [hs, Bool.and_false]
      simp [tryT, this]
    · refine ⟨fun w => absurd w (by decide), fun _ => h1 T τ ?_ hRt hk⟩
      have : so T 5 two d = true := by
        show (decide (two = 0) && !decide (fsb (RC T) < nI d)) = true
        rw [hs, decide_eq_true z]; rfl
      simp [tryT, this]
  · rw [show (6 : Int32) = nI 6 from rfl, nI_eq' (by omega) (by omega)] at q
    subst q
    refine q_has hR.1 hl (fun k hk e => ⟨fun w => absurd w (by decide), fun _ => ?_⟩) (fun hno => ⟨fun _ => h0 ?_ σ Keep.rfl', fun w => absurd rfl w⟩)
    · rw [nI_eq' (by omega) (by omega)] at e
      subst e
      rw [show (4 : Int32) = nI 4 from rfl, nI_le' (by omega) (by omega)]
      refine ⟨fun z => h0 ?_ σ Keep.rfl', fun z => ?_⟩
      · have : ¬ d < 4 := by omega
        simp [tryT, so, this]
      · have d4 : d < 4 := by omega
        refine r_heldAt hR hl hk ?_
        rw [hb_val _ (by omega)]
        cases hb : bt (hw T two ||| hr T two) d
        · exact ⟨fun _ => h0 (by simp [tryT, so, hb]) σ Keep.rfl', fun w => absurd w (by decide)⟩
        · exact ⟨fun w => absurd rfl w, fun _ => h1 T σ (by simp [tryT, so, hb, hk, d4]) hR Keep.rfl'⟩
    · have : ¬ two < T.length := fun w => hno two w rfl
      simp [tryT, so, this]
  · rw [show (1 : Int32) = nI 1 from rfl, nI_eq' (by omega) (by omega), show (2 : Int32) = nI 2 from rfl, nI_eq' (by omega) (by omega), show (3 : Int32) = nI 3 from rfl, nI_eq' (by omega) (by omega), show (4 : Int32) = nI 4 from rfl, nI_eq' (by omega) (by omega), show (5 : Int32) = nI 5 from rfl, nI_eq' (by omega) (by omega), show (6 : Int32) = nI 6 from rfl, nI_eq' (by omega) (by omega)] at q
    refine h0 ?_ σ Keep.rfl'
    simp [tryT, so, q.1, q.2.1, q.2.2.1, q.2.2.2.1, q.2.2.2.2.1, q.2.2.2.2.2]
/-! the reference -/
def Xtt (c i : Nat) : Bool := c == 79 || (c == 64 && decide (21 ≤ i)) || Xw c i
theorem Xtt_keep : ∀ c i, PF c i = true → Xtt c i = false := by
  intro c i h
  simp only [PF, Xtt, Xw, Bool.or_eq_true, Bool.and_eq_true, beq_iff_eq, decide_eq_true_eq, Bool.or_eq_false_iff, Bool.and_eq_false_iff, beq_eq_false_iff_ne, decide_eq_false_iff_not] at h ⊢
  omega
theorem Xw_tt : ∀ c i, Xtt c i = false → Xw c i = false := by
  intro c i h
  simp only [Xtt, Bool.or_eq_false_iff] at h
  exact h.2
theorem Xrg_tt : ∀ c i, Xtt c i = false → Xrg 64 (21 * 1) c i = false := by
  intro c i h
  simp only [Xtt, Xrg, Bool.or_eq_false_iff, Bool.and_eq_false_iff, beq_eq_false_iff_ne, decide_eq_false_iff_not] at h ⊢
  omega
theorem p_J126 {T U : Tr} {σ : St} {a1 a2 a3 : Int32} {Q : Int32 → St → Prop} (hl : T.length ≤ 20) (hB : Bnd U) (hN : NowOK 1 U σ) (hE : EncAt 79 0 T σ) (h1 : Val U → ∀ τ, NowOK 1 U τ → fr Xtt σ τ → Q 1 τ) (h0 : ¬ Val U → ∀ τ, NowOK 1 T τ → fr Xtt σ τ → Q 0 τ) : m_X9_tryThing_J126 a1 a2 a3 Q σ := by
  unfold m_X9_tryThing_J126
  refine p_isTrace (L := 1) hN hB (by omega) (fun hv σ1 _ hf1 => ?_) (fun hv σ1 hf1 => ?_)
  · refine ⟨1, ?_⟩
    show m_X9_tryThing_L136b a1 a2 a3 Q 1 _ _ σ1 0
    unfold m_X9_tryThing_L136b
    refine ⟨fun z => absurd z (by decide), fun _ => ⟨fun _ => ⟨by decide, ?_⟩, fun z => absurd z (by decide)⟩⟩
    exact h1 hv σ1 (hN.fr hf1 (fun _ => rfl)) (fr_mono hf1 Xw_tt)
  · refine lpE1 (m_X9_tryThing_L136b a1 a2 a3 Q 0 (fun σ => m_X9_tryThing_J171 a1 a2 a3 Q σ 0)) (fun _ => rfl) (fun m τ x => ∃ k, k ≤ 21 ∧ x = nI k ∧ m = 21 - k ∧ fr Xtt σ τ ∧ (∀ j, j < 21 → τ.1 79 j = σ.1 79 j) ∧ ∀ j, j < k → τ.1 64 (21 * 1 + j) = σ.1 79 (0 + j)) ?_ (n := 21) ⟨0, by omega, rfl, rfl, fr_mono hf1 Xw_tt, fun j hj => hf1.1 79 j rfl, fun j q => by omega⟩
    rintro m τ x Rc ⟨k, hk, rfl, hm, hf, h79, hj⟩ hRc
    unfold m_X9_tryThing_L136b
    rw [show (21 : Int32) = nI 21 from rfl, nI_le' (by omega) (by omega)]
    refine ⟨fun q => ?_, fun q => ⟨fun z => absurd rfl z, fun _ => ⟨vp_n (by omega) (by omega), ?_⟩⟩⟩
    · have e : k = 21 := by omega
      subst e
      refine ⟨by decide, h0 hv τ ?_ hf⟩
      have := EncAt.copy (c2 := 64) (b2 := 21 * 1) (τ := τ) hE hl (fun j hj2 => hj j hj2)
      exact ⟨this.1, this.2⟩
    · rw [nI_add, nI_cl (by omega), nI_cl (by omega), nI_1]
      refine ⟨vp_n (by omega) (by omega), ?_⟩
      unfold sIB
      refine hRc (21 - (k + 1)) _ _ (by omega) ⟨k + 1, by omega, rfl, rfl, fr_sI hf _ (by simp [Xtt]), fun j hj2 => ?_, fun j hj2 => ?_⟩
      · rw [sI_out _ _ (by omega)]; exact h79 j hj2
      · by_cases e : j = k
        · subst e; rw [sI_in, h79 j (by omega), Nat.zero_add]
        · rw [sI_out _ _ (by omega)]; exact hj j (by omega)
theorem p_L76 {T : Tr} {σ : St} {a1 a2 a3 : Int32} {Q : Int32 → St → Prop} (hl : T.length ≤ 20) (hN : NowOK 1 T σ) (h : ∀ τ, NowOK 1 T τ → EncAt 79 0 T τ → fr Xtt σ τ → m_X9_tryThing_J106 a1 a2 a3 Q τ) : m_X9_tryThing_J64 a1 a2 a3 Q σ 1 := by
  unfold m_X9_tryThing_J64
  refine ⟨fun _ => ?_, fun z => absurd z (by decide)⟩
  refine lpE1 (m_X9_tryThing_L76b a1 a2 a3 Q (fun σ => m_X9_tryThing_J106 a1 a2 a3 Q σ)) (fun _ => rfl) (fun m τ x => ∃ k, k ≤ 21 ∧ x = nI k ∧ m = 21 - k ∧ fr (fun c _ => c == 79) σ τ ∧ ∀ j, j < k → τ.1 79 (0 + j) = σ.1 64 (21 * 1 + j)) ?_ (n := 21) ⟨0, by omega, rfl, rfl, fr_rfl, fun j q => by omega⟩
  rintro m τ x Rc ⟨k, hk, rfl, hm, hf, hj⟩ hRc
  unfold m_X9_tryThing_L76b
  rw [show (21 : Int32) = nI 21 from rfl, nI_le' (by omega) (by omega)]
  refine ⟨fun q => ?_, fun q => ?_⟩
  · have e : k = 21 := by omega
    subst e
    have hE : EncAt 64 (21 * 1) T σ := ⟨hN.1, hN.2⟩
    refine h τ (hN.fr hf (fun _ => rfl)) (hE.copy hl hj) (fr_mono hf (fun c i w => ?_))
    simp only [Xtt, Bool.or_eq_false_iff] at w
    exact w.1.1
  · rw [nI_add, nI_cl (by omega), nI_cl (by omega), nI_1]
    refine ⟨vp_n (by omega) (by omega), vp_n (by omega) (by omega), ?_⟩
    unfold sIB
    refine hRc (21 - (k + 1)) _ _ (by omega) ⟨k + 1, by omega, rfl, rfl, fr_sI hf _ rfl, fun j hj2 => ?_⟩
    by_cases e : j = k
    · subst e; rw [Nat.zero_add, sI_in, hf.1 64 _ rfl]
    · rw [sI_out _ _ (by omega)]; exact hj j (by omega)
theorem p_try1 {T : Tr} {σ : St} {a : Int32} {Q : Int32 → St → Prop} (hN : NowOK 1 T σ) (hV : Val T) (hl : T.length ≤ 20) (h1 : ∀ k, k < T.length → a = nI k → Val (T.eraseIdx k) → ∀ τ, NowOK 1 (T.eraseIdx k) τ → fr Xtt σ τ → Q 1 τ) (h0 : (∀ k, k < T.length → a = nI k → ¬ Val (T.eraseIdx k)) → ∀ τ, NowOK 1 T τ → fr Xtt σ τ → Q 0 τ) : m_X9_tryThing σ 1 a 0 Q := by
  unfold m_X9_tryThing
  refine ⟨fun _ => ?_, fun z => absurd rfl z⟩
  unfold m_X9_tryThing_J10 m_X9_tryThing_J15
  refine ⟨fun _ => ⟨fun z => absurd rfl z, fun _ => ?_⟩, fun z => absurd z (by decide)⟩
  refine p_isStep (L := 1) hN (by omega) hl (fun k hk e => ⟨fun z => absurd z (by decide), fun _ => ⟨fun _ => ?_, fun z => absurd rfl z⟩⟩) (fun hno => ⟨fun _ => ⟨fun z => absurd rfl z, fun _ => h0 (fun k hk e => absurd e (hno k hk)) σ hN fr_rfl⟩, fun z => absurd rfl z⟩)
  subst e
  unfold m_X9_tryThing_J59
  refine p_L76 hl hN (fun τ hNt hEt hft => ?_)
  unfold m_X9_tryThing_J106
  refine ⟨fun z => absurd rfl z, fun _ => ?_⟩
  refine p_dropOn (L := 1) hNt (by omega) hl hk (fun υ hNu hfu => ?_)
  have hf2 : fr Xtt σ υ := fr_tr hft (fr_mono hfu Xrg_tt)
  refine p_J126 hl (Bnd_erase (hV.bnd hl) k) hNu (hEt.fr hl hfu (fun i _ _ => Xrg_c (by omega))) (fun hv ω hN3 hf3 => h1 k hk rfl hv ω hN3 (fr_tr hf2 hf3)) (fun hv ω hN3 hf3 => h0 (fun k2 hk2 e => ?_) ω hN3 (fr_tr hf2 hf3))
  rw [nI_eq' (by omega) (by omega)] at e
  subst e; exact hv
theorem p_try2 {T : Tr} {σ : St} {a : Int32} {Q : Int32 → St → Prop} (hN : NowOK 1 T σ) (hV : Val T) (hl : T.length ≤ 20) (h1 : ∀ k, k + 1 < T.length → a = nI k → Val (swp T k) → ∀ τ, NowOK 1 (swp T k) τ → fr Xtt σ τ → Q 1 τ) (h0 : (∀ k, k + 1 < T.length → a = nI k → ¬ Val (swp T k)) → ∀ τ, NowOK 1 T τ → fr Xtt σ τ → Q 0 τ) : m_X9_tryThing σ 2 a 0 Q := by
  unfold m_X9_tryThing
  refine ⟨fun z => absurd z (by decide), fun _ => ⟨fun z => absurd rfl z, fun _ => ?_⟩⟩
  unfold m_X9_tryThing_J10 m_X9_tryThing_J15
  refine ⟨fun _ => ⟨fun z => absurd rfl z, fun _ => ?_⟩, fun z => absurd z (by decide)⟩
  have J63 : (∀ k, k + 1 < T.length → a ≠ nI k) → m_X9_tryThing_J63 2 a 0 Q σ := fun hno => ⟨fun z => absurd rfl z, fun _ => h0 (fun k hk e => absurd e (hno k hk)) σ hN fr_rfl⟩
  refine p_isStep (L := 1) hN (by omega) hl (fun k hk e => ⟨fun z => absurd z (by decide), fun _ => ⟨fun z => absurd z (by decide), fun _ => ?_⟩⟩) (fun hno => ⟨fun _ => J63 (fun k hk => hno k (by omega)), fun z => absurd rfl z⟩)
  subst e
  refine p_many (L := 1) hN (by omega) ?_
  have e1 : nI T.length - 1 = nI (T.length - 1) := by rw [show (1 : Int32) = nI 1 from rfl, pk_sub (by omega)]
  rw [e1, nI_le' (by omega) (by omega)]
  refine ⟨fun z => J63 (fun k2 hk2 e => ?_), fun z => ?_⟩
  · rw [nI_eq' (by omega) (by omega)] at e; omega
  unfold m_X9_tryThing_J59
  refine p_L76 hl hN (fun τ hNt hEt hft => ?_)
  unfold m_X9_tryThing_J106
  refine ⟨fun _ => ?_, fun z => absurd z (by decide)⟩
  refine p_swapOn (L := 1) hNt (by omega) hl (by omega) (fun υ hNu hfu => ?_)
  have hf2 : fr Xtt σ υ := fr_tr hft (fr_mono hfu Xrg_tt)
  refine p_J126 hl (Bnd_swp (hV.bnd hl) (by omega)) hNu (hEt.fr hl hfu (fun i _ _ => Xrg_c (by omega))) (fun hv ω hN3 hf3 => h1 k (by omega) rfl hv ω hN3 (fr_tr hf2 hf3)) (fun hv ω hN3 hf3 => h0 (fun k2 hk2 e => ?_) ω hN3 (fr_tr hf2 hf3))
  rw [nI_eq' (by omega) (by omega)] at e
  subst e; exact hv
