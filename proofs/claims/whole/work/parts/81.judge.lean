/-! ===== told doings judged; steps dropped by a seed ===== -/
theorem nI_eq0 {m : Nat} (h : m < 2147483648) : (nI m = 0) ↔ m = 0 := by rw [show (0 : Int32) = nI 0 from rfl, nI_eq' h (by omega)]
theorem p_feasibleOn {L : Nat} {T : Tr} {σ : St} {Q : Int32 → St → Prop} (hN : NowOK L T σ) (hV : Val T) (hl : T.length ≤ 20) (hL : L < 2) (h : ∀ τ, NowOK L T τ → HeldM T τ → fr30 XfM σ τ → Q (fsb (RC T)) τ) : m_X9_feasibleOn σ (nI L) Q := by
  unfold m_X9_feasibleOn
  refine p_findRings hN (hV.bnd hl) hL (fun τ hs hC hf => ?_)
  have := h τ hC.1 hC.2.1 hf
  rw [show ((2 : Int32)).toNatClampNeg = 2 by decide, show ((3 : Int32)).toNatClampNeg = 3 by decide, show ((4 : Int32)).toNatClampNeg = 4 by decide, (hs.1 2 (by omega)).2.2.2, (hs.1 3 (by omega)).2.2.2, (hs.1 4 (by omega)).2.2.2]
  rw [RC_RM hV, fsb, Int32.zero_add] at this
  exact this
theorem not4 {m : Nat} (h : 4 ≤ m) (hm : m < 1000) : ¬ ((0 : Int32) ≤ nI m ∧ nI m ≤ 3) := by
  rintro ⟨_, q⟩
  rw [show (3 : Int32) = nI 3 from rfl, nI_le' (by omega) (by omega)] at q
  omega
theorem p_isSo {T : Tr} {σ : St} {how two d : Nat} {Q : Int32 → St → Prop} (hN : NowOK 1 T σ) (hV : Val T) (hl : T.length ≤ 20) (hh : how < 10) (ht : two < 100) (hd : d < 10) (h : ∀ τ, NowOK 1 T τ → Keep σ τ → Q (if so T how two d then 1 else 0) τ) : m_X9_isSo σ (nI how) (nI two) (nI d) Q := by
  unfold m_X9_isSo
  have hB := hV.bnd hl
  refine p_findHeld (L := 1) hN hB (by omega) (fun σ1 hW hH hf1 => ?_)
  have hN1 := hN.fr hf1 (fun _ => rfl)
  have k1 : Keep σ σ1 := hf1.keep Xh_keep
  have d10 : nI two / 10 = nI (two / 10) := by rw [show (10 : Int32) = nI 10 from rfl, pk_div (by omega) (by omega) (by omega)]
  have r10 : nI two - nI two / 10 * 10 = nI (two % 10) := by rw [show (10 : Int32) = nI 10 from rfl, pk_rem (by omega) (by omega) (by omega)]
  have z0 : (0 : Int32) = nI 0 := rfl
  refine ⟨fun q => ?_, fun q => ?_, fun q => ?_, fun q => ?_, fun q => ?_⟩
  · rw [show (3 : Int32) = nI 3 from rfl, nI_eq' (by omega) (by omega)] at q
    subst q
    have sE : so T 3 two d = (decide (two % 10 = 0) && (decide (two / 10 < 4) && decide ((wf T (two / 10) 15 (fun _ => false) T.length).1 = d))) := rfl
    refine p_many (L := 1) hN1 (by omega) ?_
    rw [r10, d10, show (4 : Int32) = nI 4 from rfl, pk_rem (by omega) (by omega) (by omega)]
    refine p_watchCell (L := 1) hN1 hB hH (by omega) (by omega) (Nat.le_refl _) (fun τ hWc hf => ?_)
    rw [bt00] at hWc
    have hQ := h τ (hN1.fr hf (fun _ => rfl)) (k1.tr (hf.keep XW_keep))
    rw [sE] at hQ
    rw [nI_eq0 (by omega)]
    refine ⟨fun z => by simpa [z] using hQ, fun z => ?_⟩
    rcases Nat.lt_or_ge (two / 10) 4 with w | w
    · refine p_isFour w ⟨fun z => absurd z (by decide), fun _ => ?_⟩
      rw [Nat.mod_eq_of_lt w] at hWc
      have st4 := (wf_small T (two / 10) 15 (fun _ => false) T.length).1
      rw [hWc.1, nI_eq' (by omega) (by omega)]
      exact ⟨fun v => by simpa [z, w, v] using hQ, fun v => by simpa [z, w, v] using hQ⟩
    · refine p_isFour_n (not4 w (by omega)) ⟨fun _ => ?_, fun z => absurd rfl z⟩
      have w' : ¬ two / 10 < 4 := by omega
      simpa [w'] using hQ
  · rw [show (4 : Int32) = nI 4 from rfl, nI_eq' (by omega) (by omega)] at q
    subst q
    have sE : so T 4 two d = (decide (two % 10 = 0) && (decide (two / 10 < 4) && (decide (d < 2) && (decide ((wf T (two / 10) 15 (fun _ => false) T.length).2.2.2.1 ≠ -9) == decide (d = 1))))) := rfl
    rw [sE] at h
    have hQ := h σ1 hN1 k1
    rw [r10, d10, nI_eq0 (by omega)]
    refine ⟨fun z => by simpa [z] using hQ, fun z => ?_⟩
    rcases Nat.lt_or_ge (two / 10) 4 with w | w
    · refine p_isFour w ⟨fun z => absurd z (by decide), fun _ => ?_⟩
      rw [show (2 : Int32) = nI 2 from rfl, nI_le' (by omega) (by omega)]
      refine ⟨fun v => ?_, fun v => ?_⟩
      · have v' : ¬ d < 2 := by omega
        simpa [v'] using hQ
      · have v' : d < 2 := by omega
        refine p_flaggedOn (L := 1) hN1 hB hH (by omega) (fun τ hf => ?_)
        have hQt := h τ (hN1.fr hf (fun _ => rfl)) (k1.tr (hf.keep XW_keep))
        have fbE : bt (fbt T 15 4) (two / 10) = decide ((wf T (two / 10) 15 (fun _ => false) T.length).2.2.2.1 ≠ -9) := by
          have one : ∀ i, i < 4 → bt (if (wf T i 15 (fun _ => false) T.length).2.2.2.1 = -9 then 0 else bitI i) (two / 10) = (decide (two / 10 = i) && decide ((wf T i 15 (fun _ => false) T.length).2.2.2.1 ≠ -9)) := by
            intro i hi
            by_cases e : (wf T i 15 (fun _ => false) T.length).2.2.2.1 = -9
            · rw [if_pos e, b_0]; simp [e]
            · rw [if_neg e, b_bit (by omega) (by omega)]; simp [e]
          show bt ((((0 ||| _) ||| _) ||| _) ||| _) (two / 10) = _
          rw [b_or, b_or, b_or, b_or, b_0, one 0 (by omega), one 1 (by omega), one 2 (by omega), one 3 (by omega)]
          have c4 : two / 10 = 0 ∨ two / 10 = 1 ∨ two / 10 = 2 ∨ two / 10 = 3 := by omega
          rcases c4 with e | e | e | e <;> simp [e]
        refine p_has (by omega) ?_
        rw [fbE, show (1 : Int32) = nI 1 from rfl, nI_eq' (by omega) (by omega)]
        cases hb : decide ((wf T (two / 10) 15 (fun _ => false) T.length).2.2.2.1 ≠ -9)
        · rw [hb, decide_eq_true z, decide_eq_true w, decide_eq_true v'] at hQt
          refine ⟨fun y => ⟨fun x => absurd rfl x, fun _ => ?_⟩, fun y => ⟨fun _ => ?_, fun x => absurd x (by decide)⟩⟩
          · show Q 1 τ
            simpa [y] using hQt
          · show Q 0 τ
            simpa [y] using hQt
        · rw [hb, decide_eq_true z, decide_eq_true w, decide_eq_true v'] at hQt
          refine ⟨fun y => ⟨fun _ => ?_, fun x => absurd x (by decide)⟩, fun y => ⟨fun x => absurd rfl x, fun _ => ?_⟩⟩
          · show Q 0 τ
            simpa [y] using hQt
          · show Q 1 τ
            simpa [y] using hQt
    · refine p_isFour_n (not4 w (by omega)) ⟨fun _ => ?_, fun z => absurd rfl z⟩
      have w' : ¬ two / 10 < 4 := by omega
      simpa [w'] using hQ
  · rw [show (5 : Int32) = nI 5 from rfl, nI_eq' (by omega) (by omega)] at q
    subst q
    have sE : so T 5 two d = (decide (two = 0) && !decide (fsb (RC T) < nI d)) := rfl
    rw [sE] at h
    rw [nI_eq0 (by omega)]
    refine ⟨fun z => by simpa [z] using h σ1 hN1 k1, fun z => ?_⟩
    refine p_feasibleOn (L := 1) hN1 hV hl (by omega) (fun τ hNt _ hf => ?_)
    have hQ := h τ hNt (k1.tr (fr30_keep hf XfM_keep))
    exact ⟨fun v => by simpa [z, v] using hQ, fun v => by simpa [z, v] using hQ⟩
  · rw [show (6 : Int32) = nI 6 from rfl, nI_eq' (by omega) (by omega)] at q
    subst q
    have sE : so T 6 two d = (decide (two < T.length) && (decide (d < 4) && bt (hw T two ||| hr T two) d)) := rfl
    have hQ := h σ1 hN1 k1
    rw [sE] at hQ
    refine p_isStep (L := 1) hN1 (by omega) hl (fun k hk e => ⟨fun z => absurd z (by decide), fun _ => ?_⟩) (fun hno => ⟨fun _ => ?_, fun z => absurd rfl z⟩)
    · rw [nI_eq' (by omega) (by omega)] at e
      subst e
      rcases Nat.lt_or_ge d 4 with w | w
      · refine p_isFour w ⟨fun z => absurd z (by decide), fun _ => ⟨vp_n (by omega) (by omega), vp_n (by omega) (by omega), ?_⟩⟩
        rw [nI_cl (by omega), (hH two hk).1, (hH two hk).2]
        refine p_has (by omega) ?_
        cases hb : bt (hw T two ||| hr T two) d
        · exact ⟨fun _ => by simpa [hb] using hQ, fun z => absurd rfl z⟩
        · exact ⟨fun z => absurd z (by decide), fun _ => by simpa [hb, hk, w] using hQ⟩
      · refine p_isFour_n (not4 w (by omega)) ⟨fun _ => ?_, fun z => absurd rfl z⟩
        have w' : ¬ d < 4 := by omega
        simpa [w'] using hQ
    · have w' : ¬ two < T.length := fun w => hno two w rfl
      simpa [w'] using hQ
  · rw [show (3 : Int32) = nI 3 from rfl, nI_eq' (by omega) (by omega), show (4 : Int32) = nI 4 from rfl, nI_eq' (by omega) (by omega), show (5 : Int32) = nI 5 from rfl, nI_eq' (by omega) (by omega), show (6 : Int32) = nI 6 from rfl, nI_eq' (by omega) (by omega)] at q
    have hQ := h σ1 hN1 k1
    have sE : so T how two d = false := by simp [so, q.1, q.2.1, q.2.2.1, q.2.2.2]
    rw [sE] at hQ
    exact hQ
theorem p_tryThing {T : Tr} {σ : St} {how two d : Nat} {Q : Int32 → St → Prop} (hN : NowOK 1 T σ) (hV : Val T) (hl : T.length ≤ 20) (hh : how < 10) (ht : two < 100) (hd : d < 10) (h1 : ∀ U τ, tryT T how two d = some U → NowOK 1 U τ → Keep σ τ → Q 1 τ) (h0 : tryT T how two d = none → ∀ τ, Keep σ τ → Q 0 τ) : m_X9_tryThing σ (nI how) (nI two) (nI d) Q := by
  by_cases e1 : how = 1
  · subst e1
    by_cases e0 : d = 0
    · subst e0
      refine p_try1 hN hV hl (fun k hk e hv τ hNt hf => ?_) (fun hno τ hNt hf => h0 ?_ τ (hf.keep Xtt_keep))
      · rw [nI_eq' (by omega) (by omega)] at e
        subst e
        exact h1 (T.eraseIdx two) τ (by simp [tryT, hk, (vT_iff _).mpr hv]) hNt (hf.keep Xtt_keep)
      · unfold tryT
        rw [if_pos rfl, if_neg]
        rintro ⟨_, w1, w2⟩
        exact hno two w1 rfl ((vT_iff _).mp w2)
    · unfold m_X9_tryThing
      refine ⟨fun _ => ?_, fun z => absurd rfl z⟩
      unfold m_X9_tryThing_J10 m_X9_tryThing_J15
      refine ⟨fun _ => ⟨fun _ => ⟨fun z => absurd rfl z, fun _ => h0 (by simp [tryT, e0]) σ Keep.rfl'⟩, fun z => ?_⟩, fun z => absurd z (by decide)⟩
      rw [show (0 : Int32) = nI 0 from rfl, nI_eq' (by omega) (by omega)] at z
      exact absurd z e0
  by_cases e2 : how = 2
  · subst e2
    by_cases e0 : d = 0
    · subst e0
      refine p_try2 hN hV hl (fun k hk e hv τ hNt hf => ?_) (fun hno τ hNt hf => h0 ?_ τ (hf.keep Xtt_keep))
      · rw [nI_eq' (by omega) (by omega)] at e
        subst e
        exact h1 (swp T two) τ (by simp [tryT, hk, (vT_iff _).mpr hv]) hNt (hf.keep Xtt_keep)
      · unfold tryT
        rw [if_neg (by omega), if_pos rfl, if_neg]
        rintro ⟨_, w1, w2⟩
        exact hno two w1 rfl ((vT_iff _).mp w2)
    · unfold m_X9_tryThing
      refine ⟨fun z => absurd z (by decide), fun _ => ⟨fun z => absurd rfl z, fun _ => ?_⟩⟩
      unfold m_X9_tryThing_J10 m_X9_tryThing_J15
      refine ⟨fun _ => ⟨fun _ => ⟨fun z => absurd rfl z, fun _ => h0 (by simp [tryT, e0]) σ Keep.rfl'⟩, fun z => ?_⟩, fun z => absurd z (by decide)⟩
      rw [show (0 : Int32) = nI 0 from rfl, nI_eq' (by omega) (by omega)] at z
      exact absurd z e0
  unfold m_X9_tryThing
  rw [show (1 : Int32) = nI 1 from rfl, show (2 : Int32) = nI 2 from rfl, nI_eq' (by omega) (by omega), nI_eq' (by omega) (by omega)]
  refine ⟨fun z => absurd z e1, fun _ => ⟨fun _ => ?_, fun z => absurd z e2⟩⟩
  unfold m_X9_tryThing_J15
  refine ⟨fun z => absurd rfl z, fun _ => ?_⟩
  refine p_isSo hN hV hl hh ht hd (fun τ hNt hk => ⟨bool01 _, ?_⟩)
  cases hs : so T how two d
  · exact h0 (by simp [tryT, e1, e2, hs]) τ hk
  · exact h1 T τ (by simp [tryT, e1, e2, hs]) hNt hk
theorem p_ten {σ : St} {n : Nat} {Q : Int64 → St → Prop} (hn : n ≤ 4) (h : Q (lN (10000 ^ n)) σ) : m_X9_tenThousandTo σ (nI n) Q := by
  unfold m_X9_tenThousandTo
  refine lpE2 (m_X9_tenThousandTo_L4b (nI n) Q (fun σ x1 => m_X9_tenThousandTo_J21 (nI n) Q σ x1)) (fun _ => rfl) (fun m τ x y => ∃ k, k ≤ n ∧ y = nI k ∧ m = n - k ∧ τ = σ ∧ x = lN (10000 ^ k)) ?_ (n := n) ⟨0, by omega, rfl, rfl, rfl, rfl⟩
  rintro m τ x y Rc ⟨k, hk, rfl, hm, rfl, rfl⟩ hRc
  unfold m_X9_tenThousandTo_L4b
  rw [nI_le' (by omega) (by omega)]
  refine ⟨fun q => ?_, fun q => bL_i ?_⟩
  · have e : k = n := by omega
    subst e
    exact h
  · rw [nI_1, show (10000 : Int64) = lN 10000 from rfl, lN_mul]
    exact hRc (n - (k + 1)) _ _ _ (by omega) ⟨k + 1, by omega, rfl, rfl, rfl, by rw [Nat.pow_succ]⟩
def vs (F n k : Nat) : Nat := F / 10000 ^ (n - 1 - k) % 10000
def js (T : Tr) (F n : Nat) : Nat → Option Tr
  | 0 => some T
  | k + 1 => (js T F n k).bind (fun U => tryT U (vs F n k / 1000) (vs F n k / 10 % 100) (vs F n k % 10))
theorem js_ok {T : Tr} (hV : Val T) (hl : T.length ≤ 20) (F n : Nat) : ∀ k U, js T F n k = some U → Val U ∧ U.length ≤ 20
  | 0, U, h => by cases h; exact ⟨hV, hl⟩
  | k + 1, U, h => by
    rw [js, Option.bind_eq_some_iff] at h
    obtain ⟨W, h1, h2⟩ := h
    have := js_ok hV hl F n k W h1
    exact tryT_ok this.1 this.2 h2
theorem js_none {T : Tr} {F n k : Nat} (h : js T F n k = none) : ∀ d, js T F n (k + d) = none
  | 0 => h
  | d + 1 => by
    show (js T F n (k + d)).bind _ = none
    rw [js_none h d]; rfl
theorem fDO_n {n : Nat} (h : n ≤ 4) : fDO n = lN (10000 ^ n) := by
  have : n = 0 ∨ n = 1 ∨ n = 2 ∨ n = 3 ∨ n = 4 := by omega
  rcases this with rfl | rfl | rfl | rfl | rfl <;> decide
theorem ten_lt {n : Nat} (h : n ≤ 4) : 10000 ^ n < 2 ^ 63 ∧ 0 < 10000 ^ n := by
  have : n = 0 ∨ n = 1 ∨ n = 2 ∨ n = 3 ∨ n = 4 := by omega
  rcases this with rfl | rfl | rfl | rfl | rfl <;> decide
theorem vs_e {F n k : Nat} (hF : F < 2 ^ 63) (hk : k < n) (hn : n ≤ 4) : (lN F / lN (10000 ^ (n - 1 - k)) - lN F / lN (10000 ^ (n - 1 - k)) / 10000 * 10000).toInt32 = nI (vs F n k) := by
  have t := ten_lt (n := n - 1 - k) (by omega)
  have hq : F / 10000 ^ (n - 1 - k) < 2 ^ 63 := Nat.lt_of_le_of_lt (Nat.div_le_self _ _) hF
  rw [pk_lDiv hF t.2 t.1, show (10000 : Int64) = lN 10000 from rfl, pk_lRem hq (by omega) (by decide), lN_i]
  rfl
theorem arg14 (x : Int32) {M : Nat} (hM : M < 1000) (h1 : 1 ≤ M) : (∃ k, 1 ≤ k ∧ k ≤ M ∧ x = nI k) ∨ ((x < 1 ∨ (nI M < x ∧ ¬ x ≤ nI M)) ∧ ¬ ((1 : Int64) ≤ x.toInt64 ∧ x.toInt64 ≤ (nI M).toInt64)) := by
  rw [show (1 : Int64) = (nI 1).toInt64 by decide, i64_le, i64_le]
  rcases arg_n x (n := M + 1) (by omega) with ⟨k, hk, rfl⟩ | q | q
  · rcases Nat.lt_or_ge k 1 with w | w
    · right
      refine ⟨Or.inl ?_, fun z => ?_⟩
      · rw [show (1 : Int32) = nI 1 from rfl, nI_lt' (by omega) (by omega)]; exact w
      · have := z.1; rw [nI_le' (by omega) (by omega)] at this; omega
    · exact Or.inl ⟨k, w, by omega, rfl⟩
  · right
    have e1 : (1 : Int32).toInt = 1 := by decide
    have e0 : (0 : Int32).toInt = 0 := by decide
    have e1' : (nI 1).toInt = 1 := by decide
    rw [Int32.lt_iff_toInt_lt] at q
    refine ⟨Or.inl ?_, fun z => ?_⟩
    · rw [Int32.lt_iff_toInt_lt]; omega
    · have := z.1; rw [Int32.le_iff_toInt_le] at this; omega
  · right
    have e4 : (nI M).toInt = M := nI_toInt (by omega)
    have e5 : (nI (M + 1)).toInt = (M + 1 : Nat) := nI_toInt (by omega)
    rw [Int32.le_iff_toInt_le] at q
    refine ⟨Or.inr ⟨?_, ?_⟩, fun z => ?_⟩
    · rw [Int32.lt_iff_toInt_lt]; omega
    · rw [Int32.le_iff_toInt_le]; omega
    · have := z.2; rw [Int32.le_iff_toInt_le] at this; omega
theorem k_judge {σ : St} (h : Inv σ) (a : Int32) (b : Int64) : m_X8_judge σ a b (fun r σ1 => m_X9_judge σ1 a b (fun r2 σ2 => r = r2 ∧ Inv σ2)) := by
  obtain ⟨X, n0, T, B, nx, hI⟩ := h
  have hI0 : Inv σ := ⟨X, n0, T, B, nx, hI⟩
  obtain ⟨i1, i2, i3, i4, i5, i6, i7, i8, i9, i10, i11⟩ := id hI
  have hB := i5.bnd i6
  have e1 : (1 : Int64) = (nI 1).toInt64 := by decide
  have e4 : (4 : Int64) = (nI 4).toInt64 := by decide
  unfold m_X8_judge
  have noA : ¬ ((1 : Int64) ≤ a.toInt64 ∧ a.toInt64 ≤ (nI 4).toInt64) → m_X9_judge σ a b (fun r2 σ2 => -2 = r2 ∧ Inv σ2) := by
    intro hno
    unfold m_X9_judge
    rw [e4]
    exact p_in (fun h1 h2 => absurd ⟨h1, h2⟩ hno) (fun _ => ⟨fun _ => ⟨rfl, hI0⟩, fun z => absurd rfl z⟩)
  rcases arg14 a (M := 4) (by omega) (by omega) with ⟨n, hn1, hn4, rfl⟩ | ⟨hb1, hb2⟩
  rotate_left
  · refine ⟨fun _ => noA hb2, fun q => ⟨fun _ => noA hb2, fun q2 => ?_⟩⟩
    rcases hb1 with w | w
    · exact absurd w q
    · exact absurd w.1 q2
  have in14 : (1 : Int64) ≤ (nI n).toInt64 ∧ (nI n).toInt64 ≤ (nI 4).toInt64 := by
    rw [e1, i64_le, i64_le, nI_le' (by omega) (by omega), nI_le' (by omega) (by omega)]
    exact ⟨hn1, hn4⟩
  have t := ten_lt hn4
  rw [show (1 : Int32) = nI 1 from rfl, nI_lt' (by omega) (by omega), show (4 : Int32) = nI 4 from rfl, nI_lt' (by omega) (by omega)]
  refine ⟨fun z => by omega, fun _ => ⟨fun z => by omega, fun _ => ?_⟩⟩
  have noB : ¬ ((0 : Int64) ≤ b ∧ b ≤ lN (10000 ^ n) - 1) → m_X9_judge σ (nI n) b (fun r2 σ2 => -2 = r2 ∧ Inv σ2) := by
    intro hno
    unfold m_X9_judge
    rw [e4]
    refine p_in (fun _ _ => ⟨fun z => absurd z (by decide), fun _ => p_ten hn4 ?_⟩) (fun z => absurd in14 z)
    exact p_in (fun h1 h2 => absurd ⟨h1, h2⟩ hno) (fun _ => ⟨fun z => absurd rfl z, fun _ => ⟨rfl, hI0⟩⟩)
  have es : lN (10000 ^ n) - 1 = lN (10000 ^ n - 1) := by rw [show (1 : Int64) = lN 1 from rfl, lN_sub (by omega)]
  rw [lg_cmp_lt, lg_cmp_lt, nI_cl (by omega), fDO_n hn4]
  refine ⟨fun z => noB (fun q => ?_), fun z => ⟨vp_n (by omega) (by omega), ?_⟩⟩
  · have := q.1; rw [Int64.le_iff_toInt_le] at this; rw [Int64.lt_iff_toInt_lt] at z; omega
  obtain ⟨F, hF, rfl⟩ := pk_lOf z
  rw [pk_lLT hF t.1]
  refine ⟨fun hFn => ?_, fun hFn => noB (fun q => ?_)⟩
  rotate_left
  · have := q.2; rw [es, pk_lLE hF (by omega)] at this; omega
  have inF : (0 : Int64) ≤ lN F ∧ lN F ≤ lN (10000 ^ n) - 1 := by
    rw [es, show (0 : Int64) = lN 0 from rfl, pk_lLE (by decide) hF, pk_lLE hF (by omega)]
    omega
  have M : ∀ (τ : St) (r : Int32), Keep σ τ → ((∃ k, k < n ∧ (∃ U, js T F n k = some U) ∧ js T F n (k + 1) = none ∧ r = nI k) ∨ ((∃ U, js T F n n = some U) ∧ r = -9)) → m_X9_judge τ (nI n) (lN F) (fun r2 σ2 => r = r2 ∧ Inv σ2) := by
    intro τ r hk hr
    have hIt := hI.keep hk
    unfold m_X9_judge
    rw [e4]
    refine p_in (fun _ _ => ⟨fun z => absurd z (by decide), fun _ => p_ten hn4 ?_⟩) (fun z => absurd in14 z)
    refine p_in (fun _ _ => ⟨fun _ => ?_, fun z => absurd z (by decide)⟩) (fun z => absurd inF z)
    refine p_lay (L1 := 1) (L2 := 0) (by omega) (by omega) (by omega) (fun σ1 hc hf1 => ?_)
    have hI1 := hIt.keep (hf1.keep Xrg1_keep)
    have hE0 : EncAt 64 (21 * 0) T τ := ⟨hIt.2.2.2.1.1, hIt.2.2.2.1.2⟩
    have hE1 : EncAt 64 (21 * 1) T σ1 := hE0.copy i6 hc
    refine lpE1 (m_X9_judge_L38b (nI n) (lN F) (fun r2 σ2 => r = r2 ∧ Inv σ2) (fun σ x4 => m_X9_judge_J88 (nI n) (lN F) (fun r2 σ2 => r = r2 ∧ Inv σ2) σ x4) (fun σ => m_X9_judge_J97 (nI n) (lN F) (fun r2 σ2 => r = r2 ∧ Inv σ2) σ)) (fun _ => rfl) (fun m υ x => ∃ k U, k ≤ n ∧ x = nI k ∧ m = n - k ∧ js T F n k = some U ∧ NowOK 1 U υ ∧ Keep σ1 υ) ?_ (n := n) ⟨0, T, by omega, rfl, rfl, rfl, ⟨hE1.1, hE1.2⟩, Keep.rfl'⟩
    rintro m υ x Rc ⟨k, U, hkn, rfl, hm, hjs, hNu, hku⟩ hRc
    obtain ⟨hVU, hlU⟩ := js_ok i5 i6 F n k U hjs
    unfold m_X9_judge_L38b
    rw [nI_le' (by omega) (by omega)]
    refine ⟨fun q => ?_, fun q => ?_⟩
    · have e : k = n := by omega
      subst e
      refine ⟨?_, X, n0, T, B, nx, hI1.keep hku⟩
      rcases hr with ⟨k2, h1, ⟨W, h2⟩, h3, h4⟩ | ⟨_, h4⟩
      · have := js_none h3 (k - (k2 + 1))
        rw [show k2 + 1 + (k - (k2 + 1)) = k by omega, hjs] at this
        cases this
      · exact h4
    · have ek : nI n - 1 - nI k = nI (n - 1 - k) := by rw [show (1 : Int32) = nI 1 from rfl, pk_sub (by omega), pk_sub (by omega)]
      rw [ek]
      refine p_ten (by omega) ?_
      have tk := ten_lt (n := n - 1 - k) (by omega)
      refine ⟨fun z => ?_, bI_i ?_⟩
      · rw [show (0 : Int64) = lN 0 from rfl, pk_lEQ tk.1 (by decide)] at z; omega
      rw [vs_e hF (by omega) hn4]
      have v4 : vs F n k < 10000 := Nat.mod_lt _ (by omega)
      rw [show (1000 : Int32) = nI 1000 from rfl, pk_div (d := 1000) (by omega) (by omega) (by omega), show (10 : Int32) = nI 10 from rfl, pk_rem (a := vs F n k) (d := 10) (by omega) (by omega) (by omega), pk_div (d := 10) (by omega) (by omega) (by omega), show (100 : Int32) = nI 100 from rfl, pk_rem (by omega) (by omega) (by omega)]
      have jE : js T F n (k + 1) = tryT U (vs F n k / 1000) (vs F n k / 10 % 100) (vs F n k % 10) := by rw [js, hjs]; rfl
      refine p_tryThing hNu hVU hlU (by omega) (by omega) (by omega) (fun W ω hW hNw hkw => ⟨fun _ => ?_, fun z => absurd z (by decide)⟩) (fun hno ω hkw => ⟨fun z => absurd rfl z, fun _ => ?_⟩)
      · rw [nI_1]
        exact hRc (n - (k + 1)) _ _ (by omega) ⟨k + 1, W, by omega, rfl, rfl, jE.trans hW, hNw, hku.tr hkw⟩
      · refine ⟨?_, X, n0, T, B, nx, hI1.keep (hku.tr hkw)⟩
        have jn := jE.trans hno
        rcases hr with ⟨k2, h1, ⟨W, h2⟩, h3, h4⟩ | ⟨⟨W, h2⟩, h4⟩
        · have : k2 = k := by
            rcases Nat.lt_trichotomy k2 k with w | w | w
            · have := js_none h3 (k - (k2 + 1))
              rw [show k2 + 1 + (k - (k2 + 1)) = k by omega, hjs] at this
              cases this
            · exact w
            · have := js_none jn (k2 - (k + 1))
              rw [show k + 1 + (k2 - (k + 1)) = k2 by omega, h2] at this
              cases this
          rw [h4, this]
        · have := js_none jn (n - (k + 1))
          rw [show k + 1 + (n - (k + 1)) = n by omega, h2] at this
          cases this
  refine q_copy (b := 13) (b2 := 3) (by omega) i3 i5 i6 (fun σ1 hR1 hf1 => ?_)
  have k1 : Keep σ σ1 := hf1.keep XR13_keep
  refine lpE1 (m_X8_judge_L43b (nI n) (lN F) (fun r σ1 => m_X9_judge σ1 (nI n) (lN F) (fun r2 σ2 => r = r2 ∧ Inv σ2)) (fun σ x4 => m_X8_judge_J79 (nI n) (lN F) (fun r σ1 => m_X9_judge σ1 (nI n) (lN F) (fun r2 σ2 => r = r2 ∧ Inv σ2)) σ x4) (fun σ => m_X8_judge_J88 (nI n) (lN F) (fun r σ1 => m_X9_judge σ1 (nI n) (lN F) (fun r2 σ2 => r = r2 ∧ Inv σ2)) σ)) (fun _ => rfl) (fun m υ x => ∃ k U, k ≤ n ∧ x = nI k ∧ m = n - k ∧ js T F n k = some U ∧ RowOK 13 U υ ∧ Keep σ υ) ?_ (n := n) ⟨0, T, by omega, rfl, rfl, rfl, hR1, k1⟩
  rintro m υ x Rc ⟨k, U, hkn, rfl, hm, hjs, hRu, hku⟩ hRc
  obtain ⟨hVU, hlU⟩ := js_ok i5 i6 F n k U hjs
  unfold m_X8_judge_L43b
  rw [nI_le' (by omega) (by omega)]
  refine ⟨fun q => ?_, fun q => ?_⟩
  · have e : k = n := by omega
    subst e
    exact M υ _ hku (Or.inr ⟨⟨U, hjs⟩, rfl⟩)
  · have ek : nI n - 1 - nI k = nI (n - 1 - k) := by rw [show (1 : Int32) = nI 1 from rfl, pk_sub (by omega), pk_sub (by omega)]
    have tk := ten_lt (n := n - 1 - k) (by omega)
    rw [ek, nI_cl (by omega), cl1, fDO_n (n := n - 1 - k) (by omega), show fDO 1 = (10000 : Int64) by decide]
    refine ⟨vp_n (by omega) (by omega), fun z => ?_, vp_n (n := 1) (by omega) (by omega), by decide, bI_i ?_⟩
    · rw [show (0 : Int64) = lN 0 from rfl, pk_lEQ tk.1 (by decide)] at z; omega
    rw [vs_e hF (by omega) hn4]
    have v4 : vs F n k < 10000 := Nat.mod_lt _ (by omega)
    have jE : js T F n (k + 1) = tryT U (vs F n k / 1000) (vs F n k / 10 % 100) (vs F n k % 10) := by rw [js, hjs]; rfl
    refine q_canBe hRu hVU hlU v4 (fun W ω hW hRw hkw => ⟨fun _ => ?_, fun z => absurd z (by decide)⟩) (fun hno ω hkw => ⟨fun z => absurd rfl z, fun _ => ?_⟩)
    · rw [nI_1]
      exact hRc (n - (k + 1)) _ _ (by omega) ⟨k + 1, W, by omega, rfl, rfl, jE.trans hW, hRw, hku.tr hkw⟩
    · exact M ω _ (hku.tr hkw) (Or.inl ⟨k, by omega, ⟨U, hjs⟩, jE.trans hno, rfl⟩)
