/-! ===== LockWatchModel: steps at levels, what is held, whether it is a trace ===== -/
theorem p_mayAny {σ : St} {w : W4} {t g : Nat} {Q : Int32 → St → Prop} (hW : WM σ w) (ht : t < 4) (hg : g < 7) (h : Q (if wany w t g then 1 else 0) σ) : m_X9_mayAny σ (nI t) (nI g) Q := by
  unfold m_X9_mayAny
  unfold wany at h
  refine p_mayBe (o := 0) hW ht hg (by omega) ?_
  cases h0 : wmay w t g 0
  · refine ⟨fun q => absurd rfl q, fun _ => ?_⟩
    refine p_mayBe (o := 1) hW ht hg (by omega) ?_
    cases h1 : wmay w t g 1
    · refine ⟨fun q => absurd rfl q, fun _ => ?_⟩
      refine p_mayBe (o := 2) hW ht hg (by omega) ?_
      cases h2 : wmay w t g 2
      · refine ⟨fun q => absurd rfl q, fun _ => ?_⟩
        refine p_mayBe (o := 3) hW ht hg (by omega) ?_
        cases h3 : wmay w t g 3
        · rw [h0, h1, h2, h3] at h; exact ⟨fun _ => h, fun q => absurd rfl q⟩
        · rw [h0, h1, h2, h3] at h; exact ⟨fun q => absurd q (by decide), fun _ => h⟩
      · rw [h0, h1, h2] at h; exact ⟨fun _ => h, fun q => absurd q (by decide)⟩
    · rw [h0, h1] at h; exact ⟨fun _ => by simpa using h, fun q => absurd q (by decide)⟩
  · rw [h0] at h; exact ⟨fun _ => by simpa using h, fun q => absurd q (by decide)⟩
theorem upd_get (f : Nat → Int32) (k j : Nat) (x : Int32) : upd f k x j = if j = k then x else f j := rfl
theorem p_go {σ : St} {w : W4} {t g o : Nat} {Q : St → Prop} (hW : WM σ w) (ht : t < 4) (hg : g < 7) (h : ∀ τ, WM τ (wgo w t g o) → fr Xw σ τ → Q τ) : m_X9_go σ (nI t) (nI g) (nI o) Q := by
  unfold m_X9_go bI
  have hv : vp_in (nI t) 4 := vp_n ht (by omega)
  have e0 : (0 : Int32) = nI 0 := rfl
  have e1 : (1 : Int32) = nI 1 := rfl
  have e2 : (2 : Int32) = nI 2 := rfl
  have e5 : (5 : Int32) = nI 5 := rfl
  have e6 : (6 : Int32) = nI 6 := rfl
  obtain ⟨h1, h2, h3, h4⟩ := hW
  refine ⟨fun q => ?_, fun q => ?_, fun q => ?_, fun q => ?_, fun q => ?_, fun q => ?_⟩
  · rw [e0, nI_eq' (by omega) (by omega)] at q
    subst q
    refine ⟨hv, hv, ?_⟩
    unfold sIB
    rw [nI_cl (by omega)]
    refine h _ ⟨fun s hs => ?_, fun s hs => ?_, ?_, ?_⟩ (fr_sI fr_rfl _ rfl)
    · rw [sI_get, h1 t ht]
      show _ = upd w.1 t (w.1 t ||| bitI o) s
      rw [upd_get]
      by_cases e : s = t
      · simp [e, bitI]
      · simp [e, h1 s hs]
    · rw [sI_out _ _ (by omega)]; exact h2 s hs
    · rw [sI_out _ _ (by omega)]; exact h3
    · rw [sI_out _ _ (by omega)]; exact h4
  · rw [e1, nI_eq' (by omega) (by omega)] at q
    subst q
    refine ⟨hv, hv, ?_⟩
    unfold sIB
    rw [nI_cl (by omega)]
    refine h _ ⟨fun s hs => ?_, fun s hs => ?_, ?_, ?_⟩ (fr_sI fr_rfl _ rfl)
    · rw [sI_out _ _ (by omega)]; exact h1 s hs
    · rw [sI_get, h2 t ht]
      show _ = upd w.2.1 t (w.2.1 t ||| bitI o) s
      rw [upd_get]
      by_cases e : s = t
      · simp [e, bitI]
      · simp [e, h2 s hs]
    · rw [sI_out _ _ (by omega)]; exact h3
    · rw [sI_out _ _ (by omega)]; exact h4
  · rw [e2, nI_eq' (by omega) (by omega)] at q
    subst q
    refine ⟨hv, hv, ?_⟩
    unfold sIB
    refine ⟨hv, hv, ?_⟩
    rw [nI_cl (by omega)]
    refine h _ ⟨fun s hs => ?_, fun s hs => ?_, ?_, ?_⟩ (fr_sI (fr_sI fr_rfl _ rfl) _ rfl)
    · rw [sI_out _ _ (by omega), sI_get, h1 t ht]
      show _ = upd w.1 t (w.1 t &&& (bitI o ^^^ (-1))) s
      rw [upd_get]
      by_cases e : s = t
      · simp [e, bitI]
      · simp [e, h1 s hs]
    · rw [sI_get, sI_out (a := 63) _ _ (by omega), h2 t ht]
      show _ = upd w.2.1 t (w.2.1 t &&& (bitI o ^^^ (-1))) s
      rw [upd_get]
      by_cases e : s = t
      · simp [e, bitI]
      · rw [sI_out _ _ (by omega)]; simp [e, h2 s hs]
    · rw [sI_out _ _ (by omega), sI_out _ _ (by omega)]; exact h3
    · rw [sI_out _ _ (by omega), sI_out _ _ (by omega)]; exact h4
  · rw [e5, nI_eq' (by omega) (by omega)] at q
    subst q
    unfold sIB
    refine h _ ⟨fun s hs => ?_, fun s hs => ?_, ?_, ?_⟩ (fr_sI fr_rfl _ rfl)
    · rw [sI_out _ _ (by omega)]; exact h1 s hs
    · rw [sI_out _ _ (by omega)]; exact h2 s hs
    · rw [sI_in, h3]; rfl
    · rw [sI_out _ _ (by omega)]; exact h4
  · rw [e6, nI_eq' (by omega) (by omega)] at q
    subst q
    unfold sIB
    refine h _ ⟨fun s hs => ?_, fun s hs => ?_, ?_, ?_⟩ (fr_sI fr_rfl _ rfl)
    · rw [sI_out _ _ (by omega)]; exact h1 s hs
    · rw [sI_out _ _ (by omega)]; exact h2 s hs
    · rw [sI_out _ _ (by omega)]; exact h3
    · rw [sI_in, h4]; rfl
  · rw [e0, e1, e2, e5, e6, nI_eq' (by omega) (by omega), nI_eq' (by omega) (by omega), nI_eq' (by omega) (by omega), nI_eq' (by omega) (by omega), nI_eq' (by omega) (by omega)] at q
    refine h _ ?_ fr_rfl
    have e : wgo w t g o = w := by simp [wgo, q.1, q.2.1, q.2.2.1, q.2.2.2.1, q.2.2.2.2]
    rw [e]
    exact ⟨h1, h2, h3, h4⟩
theorem p_begin {σ : St} {Q : St → Prop} (h : ∀ τ, WM τ w0 → fr Xw σ τ → Q τ) : m_X9_begin σ Q := by
  unfold m_X9_begin
  have e4 : (4 : Int32) = nI 4 := rfl
  refine lpE1 (m_X9_begin_L2b Q (fun σ => m_X9_begin_J27 Q σ)) (fun _ => rfl) (fun n τ x => ∃ k, k ≤ 4 ∧ x = nI k ∧ n = 4 - k ∧ fr Xw σ τ ∧ (∀ t, t < k → τ.1 62 t = 0) ∧ ∀ t, t < k → τ.1 63 t = 0) ?_ (n := 4) ⟨0, by omega, rfl, rfl, fr_rfl, fun t q => by omega, fun t q => by omega⟩
  rintro n τ x Rc ⟨k, hk, rfl, hn, hf, h1, h2⟩ hR
  unfold m_X9_begin_L2b
  rw [e4, nI_le' (by omega) (by omega)]
  refine ⟨fun q => ?_, fun q => ⟨vp_n (by omega) (by omega), ?_⟩⟩
  · unfold m_X9_begin_J27 sIB
    have e : k = 4 := by omega
    subst e
    refine h _ ⟨fun t ht => ?_, fun t ht => ?_, ?_, ?_⟩ (fr_sI (fr_sI hf _ rfl) _ rfl)
    · rw [sI_out _ _ (by omega), sI_out _ _ (by omega)]; exact h1 t ht
    · rw [sI_out _ _ (by omega), sI_out _ _ (by omega)]; exact h2 t ht
    · rw [sI_out _ _ (by omega), sI_in]; rfl
    · rw [sI_in]; rfl
  · unfold sIB
    refine ⟨vp_n (by omega) (by omega), ?_⟩
    rw [nI_cl (by omega), nI_1]
    refine hR (4 - (k + 1)) _ _ (by omega) ⟨k + 1, by omega, rfl, rfl, fr_sI (fr_sI hf _ rfl) _ rfl, fun t ht => ?_, fun t ht => ?_⟩
    · rw [sI_out _ _ (by omega), sI_get]
      by_cases e : t = k
      · simp [e]
      · simp [e]; exact h1 t (by omega)
    · rw [sI_get]
      by_cases e : t = k
      · simp [e]
      · simp only [e, and_false, if_false]; rw [sI_out _ _ (by omega)]; exact h2 t (by omega)
def nw (T : Tr) (k : Nat) : Nat := 100 * th T k + 10 * sg T k + ab T k
def NowOK (L : Nat) (T : Tr) (σ : St) : Prop := σ.1 64 (21 * L) = nI T.length ∧ ∀ k, k < T.length → σ.1 64 (21 * L + 1 + k) = nI (nw T k)
def Bnd (T : Tr) : Prop := T.length ≤ 20 ∧ ∀ k, k < T.length → th T k < 4 ∧ sg T k < 7 ∧ ab T k < 4
theorem ixA (L k : Nat) : (((21 : Int32) * nI L) + 1) + nI k = nI (21 * L + 1 + k) := by
  rw [show (21 : Int32) = nI 21 from rfl, pk_mul, nI_1, nI_add]
theorem ixB (L k : Nat) : (((21 : Int32) * nI L) + 2) + nI k = nI (21 * L + 2 + k) := by
  rw [show (21 : Int32) = nI 21 from rfl, show (2 : Int32) = nI 2 from rfl, pk_mul, nI_add, nI_add]
theorem ix0 (L : Nat) : (21 : Int32) * nI L = nI (21 * L) := pk_mul 21 L
theorem p_many {σ : St} {L : Nat} {T : Tr} {Q : Int32 → St → Prop} (hN : NowOK L T σ) (hL : L < 2) (h : Q (nI T.length) σ) : m_X9_many σ (nI L) Q := by
  unfold m_X9_many
  rw [ix0, nI_cl (by omega), hN.1]
  exact ⟨vp_n (by omega) (by omega), h⟩
theorem p_threadAt {σ : St} {L : Nat} {T : Tr} {k : Nat} {Q : Int32 → St → Prop} (hN : NowOK L T σ) (hB : Bnd T) (hL : L < 2) (hk : k < T.length) (h : Q (nI (th T k)) σ) : m_X9_threadAt σ (nI L) (nI k) Q := by
  unfold m_X9_threadAt
  obtain ⟨hb, hb2⟩ := hB
  obtain ⟨q1, q2, q3⟩ := hb2 k hk
  rw [ixA, nI_cl (by omega), hN.2 k hk]
  refine ⟨vp_n (by omega) (by omega), ?_⟩
  rw [show (100 : Int32) = nI 100 from rfl, pk_div (by unfold nw; omega) (by omega) (by omega), show nw T k / 100 = th T k by unfold nw; omega]
  exact h
theorem p_signAt {σ : St} {L : Nat} {T : Tr} {k : Nat} {Q : Int32 → St → Prop} (hN : NowOK L T σ) (hB : Bnd T) (hL : L < 2) (hk : k < T.length) (h : Q (nI (sg T k)) σ) : m_X9_signAt σ (nI L) (nI k) Q := by
  unfold m_X9_signAt
  obtain ⟨hb, hb2⟩ := hB
  obtain ⟨q1, q2, q3⟩ := hb2 k hk
  rw [ixA, nI_cl (by omega), hN.2 k hk]
  refine ⟨vp_n (by omega) (by omega), ?_⟩
  rw [show (10 : Int32) = nI 10 from rfl, pk_div (by unfold nw; omega) (by omega) (by omega), pk_rem (by unfold nw; omega) (by omega) (by omega), show nw T k / 10 % 10 = sg T k by unfold nw; omega]
  exact h
theorem p_aboutAt {σ : St} {L : Nat} {T : Tr} {k : Nat} {Q : Int32 → St → Prop} (hN : NowOK L T σ) (hB : Bnd T) (hL : L < 2) (hk : k < T.length) (h : Q (nI (ab T k)) σ) : m_X9_aboutAt σ (nI L) (nI k) Q := by
  unfold m_X9_aboutAt
  obtain ⟨hb, hb2⟩ := hB
  obtain ⟨q1, q2, q3⟩ := hb2 k hk
  rw [ixA, nI_cl (by omega), hN.2 k hk]
  refine ⟨vp_n (by omega) (by omega), ?_⟩
  rw [show (10 : Int32) = nI 10 from rfl, pk_rem (by unfold nw; omega) (by omega) (by omega), show nw T k % 10 = ab T k by unfold nw; omega]
  exact h
def tch (T : Tr) (k : Nat) : Bool := decide (sg T k = 3) || decide (sg T k = 4)
def tcof (T : Tr) (k c : Nat) : Bool := tch T k && decide (ab T k = c)
theorem p_isTouch {σ : St} {L : Nat} {T : Tr} {k : Nat} {Q : Int32 → St → Prop} (hN : NowOK L T σ) (hB : Bnd T) (hL : L < 2) (hk : k < T.length) (h : Q (if tch T k then 1 else 0) σ) : m_X9_isTouch σ (nI L) (nI k) Q := by
  unfold m_X9_isTouch
  have hs := (hB.2 k hk).2.1
  have e3 : (3 : Int32) = nI 3 := rfl
  have e4 : (4 : Int32) = nI 4 := rfl
  refine p_signAt hN hB hL hk ?_
  unfold tch at h
  rw [e3, nI_eq' (by omega) (by omega)]
  refine ⟨fun q => by simpa [q] using h, fun q => ?_⟩
  refine p_signAt hN hB hL hk ?_
  rw [e4, nI_eq' (by omega) (by omega)]
  exact ⟨fun q2 => by simpa [q, q2] using h, fun q2 => by simpa [q, q2] using h⟩
theorem p_isTouchOf {σ : St} {L : Nat} {T : Tr} {k c : Nat} {Q : Int32 → St → Prop} (hN : NowOK L T σ) (hB : Bnd T) (hL : L < 2) (hk : k < T.length) (hc : c < 4) (h : Q (if tcof T k c then 1 else 0) σ) : m_X9_isTouchOf σ (nI L) (nI k) (nI c) Q := by
  unfold m_X9_isTouchOf
  have hs := (hB.2 k hk).2.2
  refine p_isTouch hN hB hL hk ?_
  unfold tcof at h
  cases ht : tch T k
  · rw [ht] at h; exact ⟨fun _ => by simpa using h, fun q => absurd rfl q⟩
  · rw [ht] at h
    refine ⟨fun q => absurd q (by decide), fun _ => ?_⟩
    refine p_aboutAt hN hB hL hk ?_
    rw [nI_eq' (by omega) (by omega)]
    exact ⟨fun q => by simpa [q] using h, fun q => by simpa [q] using h⟩
def hw (T : Tr) (k : Nat) : Int32 := (wl T k).1 (th T k)
def hr (T : Tr) (k : Nat) : Int32 := (wl T k).2.1 (th T k)
def Xh (c i : Nat) : Bool := c == 67 || c == 68 || c == 62 || c == 63 || (c == 61 && (i == 2 || i == 3))
theorem Xw_h : ∀ c i, Xh c i = false → Xw c i = false := by
  intro c i h
  simp only [Xh, Xw, Bool.or_eq_false_iff] at h ⊢
  exact ⟨⟨h.1.1.2, h.1.2⟩, h.2⟩
theorem NowOK.fr {L : Nat} {T : Tr} {σ τ : St} {X : Nat → Nat → Bool} (h : NowOK L T σ) (hf : fr X σ τ) (hX : ∀ i, X 64 i = false) : NowOK L T τ := ⟨(hf.1 _ _ (hX _)).trans h.1, fun k hk => (hf.1 _ _ (hX _)).trans (h.2 k hk)⟩
def HeldM (T : Tr) (σ : St) : Prop := ∀ k, k < T.length → σ.1 67 k = hw T k ∧ σ.1 68 k = hr T k
theorem p_findHeld {σ : St} {L : Nat} {T : Tr} {Q : St → Prop} (hN : NowOK L T σ) (hB : Bnd T) (hL : L < 2) (h : ∀ τ, WM τ (wl T T.length) → HeldM T τ → fr Xh σ τ → Q τ) : m_X9_findHeld σ (nI L) Q := by
  unfold m_X9_findHeld
  have hlen := hB.1
  refine p_begin (fun σ1 hW hf => ?_)
  refine lpE1 (m_X9_findHeld_L6b (nI L) Q (fun σ => m_X9_findHeld_J69 (nI L) Q σ)) (fun _ => rfl) (fun n τ x => ∃ k, k ≤ T.length ∧ x = nI k ∧ n = T.length - k ∧ fr Xh σ τ ∧ WM τ (wl T k) ∧ ∀ j, j < k → τ.1 67 j = hw T j ∧ τ.1 68 j = hr T j) ?_ (n := T.length) ⟨0, by omega, rfl, rfl, fr_mono hf Xw_h, hW, fun j q => by omega⟩
  rintro n τ x Rc ⟨k, hk, rfl, hn, hf, hW, hh⟩ hR
  unfold m_X9_findHeld_L6b
  have hN' := hN.fr hf (fun _ => rfl)
  refine p_many hN' hL ?_
  rw [nI_le' (by omega) (by omega)]
  refine ⟨fun q => ?_, fun q => ?_⟩
  · have e : k = T.length := by omega
    subst e
    exact h τ hW hh hf
  · have hk' : k < T.length := by omega
    obtain ⟨q1, q2, q3⟩ := hB.2 k hk'
    refine p_threadAt hN' hB hL hk' ?_
    refine ⟨vp_n q1 (by omega), vp_n (by omega) (by omega), ?_⟩
    unfold sIB
    refine ⟨vp_n q1 (by omega), vp_n (by omega) (by omega), ?_⟩
    rw [nI_cl (by omega), nI_cl (by omega)]
    have hf1 : fr Xh σ (sI (sI τ 67 k (τ.1 62 (th T k))) 68 k ((sI τ 67 k (τ.1 62 (th T k))).1 63 (th T k))) := fr_sI (fr_sI hf _ rfl) _ rfl
    have hN1 := hN.fr hf1 (fun _ => rfl)
    refine p_signAt hN1 hB hL hk' ?_
    refine p_aboutAt hN1 hB hL hk' ?_
    have hW1 : WM (sI (sI τ 67 k (τ.1 62 (th T k))) 68 k ((sI τ 67 k (τ.1 62 (th T k))).1 63 (th T k))) (wl T k) := by
      refine ⟨fun t ht => ?_, fun t ht => ?_, ?_, ?_⟩
      · rw [sI_out _ _ (by omega), sI_out _ _ (by omega)]; exact hW.1 t ht
      · rw [sI_out _ _ (by omega), sI_out _ _ (by omega)]; exact hW.2.1 t ht
      · rw [sI_out _ _ (by omega), sI_out _ _ (by omega)]; exact hW.2.2.1
      · rw [sI_out _ _ (by omega), sI_out _ _ (by omega)]; exact hW.2.2.2
    refine p_go hW1 q1 q2 (fun υ hW2 hf2 => ?_)
    rw [nI_1]
    refine hR (T.length - (k + 1)) _ _ (by omega) ⟨k + 1, by omega, rfl, rfl, fr_tr hf1 (fr_mono hf2 Xw_h), hW2, fun j hj => ?_⟩
    rw [hf2.1 67 j rfl, hf2.1 68 j rfl]
    by_cases e : j = k
    · subst e
      rw [sI_out _ _ (by omega), sI_in, sI_in, sI_out _ _ (by omega), hW.1 _ q1, hW.2.1 _ q1]
      exact ⟨rfl, rfl⟩
    · rw [sI_out _ _ (by omega), sI_out _ _ (by omega), sI_out _ _ (by omega), sI_out _ _ (by omega)]
      exact hh j (by omega)
