/-! ===== LockWatchModel: whether it is a trace; drops, changes of places, copies ===== -/
theorem p_isStep {σ : St} {L : Nat} {T : Tr} {a : Int32} {Q : Int32 → St → Prop} (hN : NowOK L T σ) (hL : L < 2) (hB : T.length ≤ 20) (h1 : ∀ k, k < T.length → a = nI k → Q 1 σ) (h0 : (∀ k, k < T.length → a ≠ nI k) → Q 0 σ) : m_X9_isStep σ (nI L) a Q := by
  unfold m_X9_isStep
  refine p_many hN hL ?_
  have e1 : ((nI T.length - 1 : Int32)).toInt = (T.length : Int) - 1 := by
    rw [show (1 : Int32) = nI 1 from rfl, pk_sub_toInt (by omega) (by omega)]; rfl
  have key : ((0 : Int64) ≤ a.toInt64 ∧ a.toInt64 ≤ (nI T.length - 1 : Int32).toInt64) ↔ ∃ k, k < T.length ∧ a = nI k := by
    rw [show (0 : Int64) = (0 : Int32).toInt64 by decide, i64_le, i64_le, Int32.le_iff_toInt_le, Int32.le_iff_toInt_le, e1]
    constructor
    · rintro ⟨q1, q2⟩
      have z0 : (0 : Int32).toInt = 0 := by decide
      refine ⟨a.toInt.toNat, by omega, ?_⟩
      have : a.toInt = ((a.toInt.toNat : Nat) : Int) := by omega
      apply Int32.toInt_inj.mp
      rw [nI_toInt (by omega)]
      exact this
    · rintro ⟨k, hk, rfl⟩
      have z0 : (0 : Int32).toInt = 0 := by decide
      rw [nI_toInt (by omega)]
      omega
  refine p_in (fun q1 q2 => ?_) (fun q => ?_)
  · obtain ⟨k, hk, e⟩ := key.mp ⟨q1, q2⟩
    exact ⟨by decide, h1 k hk e⟩
  · exact ⟨by decide, h0 (fun k hk e => q (key.mpr ⟨k, hk, e⟩))⟩
theorem Val.bnd {T : Tr} (h : Val T) (hl : T.length ≤ 20) : Bnd T := ⟨hl, fun k hk => ⟨(h k hk).1, (h k hk).2.1, (h k hk).2.2.1⟩⟩
theorem p_isTrace {σ : St} {L : Nat} {T : Tr} {Q : Int32 → St → Prop} (hN : NowOK L T σ) (hB : Bnd T) (hL : L < 2) (h1 : Val T → ∀ τ, WM τ (wl T T.length) → fr Xw σ τ → Q 1 τ) (h0 : ¬ Val T → ∀ τ, fr Xw σ τ → Q 0 τ) : m_X9_isTrace σ (nI L) Q := by
  unfold m_X9_isTrace
  have hlen := hB.1
  refine p_begin (fun σ1 hW hf => ?_)
  refine lpE2 (m_X9_isTrace_L8b (nI L) Q (fun σ x2 => m_X9_isTrace_J93 (nI L) Q σ x2)) (fun _ => rfl) (fun n τ x y => ∃ k, k ≤ T.length ∧ y = nI k ∧ n = T.length - k ∧ fr Xw σ τ ∧ ((x = 1 ∧ WM τ (wl T k) ∧ ∀ j, j < k → okS (wl T j) (th T j) (sg T j) (ab T j) = true) ∨ (x = 0 ∧ ¬ Val T))) ?_ (n := T.length) ⟨0, by omega, rfl, rfl, hf, Or.inl ⟨rfl, hW, fun j q => by omega⟩⟩
  rintro n τ x y Rc ⟨k, hk, rfl, hn, hf, hx⟩ hR
  have hN' := hN.fr hf (fun _ => rfl)
  unfold m_X9_isTrace_L8b
  refine p_many hN' hL ?_
  rw [nI_le' (by omega) (by omega)]
  refine ⟨fun q => ?_, fun q => ⟨fun q2 => ?_, fun q2 => ?_⟩⟩
  · unfold m_X9_isTrace_J93
    rcases hx with ⟨rfl, hW, hj⟩ | ⟨rfl, hv⟩
    · have e : k = T.length := by omega
      subst e
      refine ⟨by decide, h1 (fun j hj' => ?_) τ hW hf⟩
      obtain ⟨b1, b2, b3⟩ := hB.2 j hj'
      exact ⟨b1, b2, b3, hj j hj'⟩
    · exact ⟨by decide, h0 hv τ hf⟩
  · unfold m_X9_isTrace_J93
    rcases hx with ⟨rfl, hW, hj⟩ | ⟨rfl, hv⟩
    · exact absurd q2 (by decide)
    · exact ⟨by decide, h0 hv τ hf⟩
  · rcases hx with ⟨rfl, hW, hj⟩ | ⟨rfl, hv⟩
    · have hk' : k < T.length := by omega
      obtain ⟨b1, b2, b3⟩ := hB.2 k hk'
      have bad : okS (wl T k) (th T k) (sg T k) (ab T k) = false → m_X9_isTrace_J63 (nI L) Q (fun σ x2 => m_X9_isTrace_J93 (nI L) Q σ x2) Rc τ (nI k) (nI (th T k)) := by
        intro hb
        unfold m_X9_isTrace_J63 m_X9_isTrace_J64
        refine ⟨fun _ => ?_, fun q => absurd rfl q⟩
        rw [nI_1]
        refine hR (T.length - (k + 1)) _ _ _ (by omega) ⟨k + 1, by omega, rfl, rfl, hf, Or.inr ⟨rfl, fun hv => ?_⟩⟩
        have := (hv k hk').2.2.2
        rw [hb] at this; cases this
      refine p_threadAt hN' hB hL hk' ?_
      refine p_isRunning hW b1 ?_
      cases hr : wrun (wl T k) (th T k)
      · exact ⟨fun _ => bad (by simp [okS, hr]), fun q => absurd rfl q⟩
      · refine ⟨fun q => absurd q (by decide), fun _ => ?_⟩
        refine p_signAt hN' hB hL hk' ?_
        refine p_aboutAt hN' hB hL hk' ?_
        refine p_mayBe hW b1 b2 b3 ?_
        cases hm : wmay (wl T k) (th T k) (sg T k) (ab T k)
        · exact ⟨fun _ => bad (by simp [okS, hm]), fun q => absurd rfl q⟩
        · refine ⟨fun q => absurd q (by decide), fun _ => ?_⟩
          unfold m_X9_isTrace_J64
          refine ⟨fun q => absurd q (by decide), fun _ => ?_⟩
          refine p_signAt hN' hB hL hk' ?_
          refine p_aboutAt hN' hB hL hk' ?_
          refine p_go hW b1 b2 (fun υ hW2 hf2 => ?_)
          rw [nI_1]
          refine hR (T.length - (k + 1)) _ _ _ (by omega) ⟨k + 1, by omega, rfl, rfl, fr_tr hf hf2, Or.inl ⟨rfl, hW2, fun j hj' => ?_⟩⟩
          by_cases e : j = k
          · subst e; simp [okS, hr, hm]
          · exact hj j (by omega)
    · exact absurd rfl q2
/-! copies of twenty-one numbers -/
def EncAt (c b : Nat) (T : Tr) (σ : St) : Prop := σ.1 c b = nI T.length ∧ ∀ k, k < T.length → σ.1 c (b + 1 + k) = nI (nw T k)
theorem EncAt.copy {c b c2 b2 : Nat} {T : Tr} {σ τ : St} (h : EncAt c b T σ) (hl : T.length ≤ 20) (hc : ∀ j, j < 21 → τ.1 c2 (b2 + j) = σ.1 c (b + j)) : EncAt c2 b2 T τ := by
  refine ⟨(hc 0 (by omega)).trans h.1, fun k hk => ?_⟩
  rw [show b2 + 1 + k = b2 + (1 + k) by omega, hc (1 + k) (by omega), show b + (1 + k) = b + 1 + k by omega]
  exact h.2 k hk
theorem EncAt.fr {c b : Nat} {T : Tr} {σ τ : St} {X : Nat → Nat → Bool} (h : EncAt c b T σ) (hl : T.length ≤ 20) (hf : fr X σ τ) (hX : ∀ i, b ≤ i → i < b + 21 → X c i = false) : EncAt c b T τ := ⟨(hf.1 _ _ (hX _ (by omega) (by omega))).trans h.1, fun k hk => (hf.1 _ _ (hX _ (by omega) (by omega))).trans (h.2 k hk)⟩
def Xrg (c b : Nat) : Nat → Nat → Bool := fun a i => a == c && (decide (b ≤ i) && decide (i < b + 21))
theorem Xrg_in {c b i : Nat} (h1 : b ≤ i) (h2 : i < b + 21) : Xrg c b c i = true := by simp [Xrg, h1, h2]
theorem Xrg_out {c b i : Nat} (h : i < b ∨ b + 21 ≤ i) : Xrg c b c i = false := by
  simp only [Xrg, beq_self_eq_true, Bool.true_and, Bool.and_eq_false_iff, decide_eq_false_iff_not]
  omega
theorem Xrg_c {c b a i : Nat} (h : a ≠ c) : Xrg c b a i = false := by simp [Xrg, h]
theorem p_lay {σ : St} {L1 L2 : Nat} {Q : St → Prop} (h1 : L1 < 2) (h2 : L2 < 2) (hne : L1 ≠ L2) (h : ∀ τ, (∀ j, j < 21 → τ.1 64 (21 * L1 + j) = σ.1 64 (21 * L2 + j)) → fr (Xrg 64 (21 * L1)) σ τ → Q τ) : m_X9_lay σ (nI L1) (nI L2) Q := by
  unfold m_X9_lay
  refine lpE1 (m_X9_lay_L2b (nI L1) (nI L2) Q (fun σ => m_X9_lay_J36 (nI L1) (nI L2) Q σ)) (fun _ => rfl) (fun n τ x => ∃ k, k ≤ 21 ∧ x = nI k ∧ n = 21 - k ∧ fr (Xrg 64 (21 * L1)) σ τ ∧ ∀ j, j < k → τ.1 64 (21 * L1 + j) = σ.1 64 (21 * L2 + j)) ?_ (n := 21) ⟨0, by omega, rfl, rfl, fr_rfl, fun j q => by omega⟩
  rintro n τ x Rc ⟨k, hk, rfl, hn, hf, hj⟩ hR
  unfold m_X9_lay_L2b
  rw [show (21 : Int32) = nI 21 from rfl, nI_le' (by omega) (by omega)]
  refine ⟨fun q => ?_, fun q => ?_⟩
  · have e : k = 21 := by omega
    subst e
    exact h τ hj hf
  · rw [pk_mul, pk_mul, nI_add, nI_add, nI_cl (by omega), nI_cl (by omega)]
    refine ⟨vp_n (by omega) (by omega), vp_n (by omega) (by omega), ?_⟩
    unfold sIB
    rw [nI_1]
    refine hR (21 - (k + 1)) _ _ (by omega) ⟨k + 1, by omega, rfl, rfl, fr_sI hf _ (Xrg_in (by omega) (by omega)), fun j hj' => ?_⟩
    by_cases e : j = k
    · subst e
      rw [sI_in, hf.1 _ _ (Xrg_out (by omega))]
    · rw [sI_out _ _ (by omega)]; exact hj j (by omega)
theorem getD_erase {α : Type} (l : List α) (d : α) (k j : Nat) : (l.eraseIdx k).getD j d = if j < k then l.getD j d else l.getD (j + 1) d := by
  simp only [List.getD_eq_getElem?_getD, List.getElem?_eraseIdx]
  split <;> rfl
theorem nw_erase (T : Tr) (k j : Nat) : nw (T.eraseIdx k) j = if j < k then nw T j else nw T (j + 1) := by
  unfold nw th sg ab
  rw [getD_erase]
  split <;> rfl
def swp (T : Tr) (k : Nat) : Tr := (T.set k (T.getD (k + 1) (0, 0, 0))).set (k + 1) (T.getD k (0, 0, 0))
theorem swp_len (T : Tr) (k : Nat) : (swp T k).length = T.length := by simp [swp]
theorem getD_swp (T : Tr) {k : Nat} (hk : k + 1 < T.length) (j : Nat) : (swp T k).getD j (0, 0, 0) = if j = k then T.getD (k + 1) (0, 0, 0) else if j = k + 1 then T.getD k (0, 0, 0) else T.getD j (0, 0, 0) := by
  unfold swp
  rw [List.getD_eq_getElem?_getD, List.getElem?_set, List.getElem?_set]
  by_cases e1 : k + 1 = j
  · subst e1
    simp [hk]
  · by_cases e2 : k = j
    · subst e2
      simp [show k < T.length by omega]
    · have e1' : ¬ j = k + 1 := fun q => e1 q.symm
      have e2' : ¬ j = k := fun q => e2 q.symm
      simp [e1, e2, e1', e2', List.getD_eq_getElem?_getD]
theorem nw_swp (T : Tr) {k : Nat} (hk : k + 1 < T.length) (j : Nat) : nw (swp T k) j = if j = k then nw T (k + 1) else if j = k + 1 then nw T k else nw T j := by
  unfold nw th sg ab
  rw [getD_swp T hk]
  split
  · rfl
  · split <;> rfl
theorem erase_len (T : Tr) {k : Nat} (hk : k < T.length) : (T.eraseIdx k).length = T.length - 1 := by simp [List.length_eraseIdx, hk]
theorem p_manyR {σ : St} {L n : Nat} {Q : Int32 → St → Prop} (hz : σ.1 64 (21 * L) = nI n) (hL : L < 2) (h : Q (nI n) σ) : m_X9_many σ (nI L) Q := by
  unfold m_X9_many
  rw [ix0, nI_cl (by omega), hz]
  exact ⟨vp_n (by omega) (by omega), h⟩
theorem p_dropOn {σ : St} {L : Nat} {T : Tr} {k : Nat} {Q : St → Prop} (hN : NowOK L T σ) (hL : L < 2) (hl : T.length ≤ 20) (hk : k < T.length) (h : ∀ τ, NowOK L (T.eraseIdx k) τ → fr (Xrg 64 (21 * L)) σ τ → Q τ) : m_X9_dropOn σ (nI L) (nI k) Q := by
  unfold m_X9_dropOn
  have hv : vp_in ((21 : Int32) * nI L) 42 := by rw [ix0]; exact vp_n (by omega) (by omega)
  refine ⟨hv, hv, ?_⟩
  unfold sIB
  rw [ix0, nI_cl (by omega), hN.1]
  have e1 : nI T.length - 1 = nI (T.length - 1) := by rw [show (1 : Int32) = nI 1 from rfl, pk_sub (by omega)]
  rw [e1]
  refine lpE1 (m_X9_dropOn_L15b (nI L) (nI k) Q (fun σ => m_X9_dropOn_J56 (nI L) (nI k) Q σ)) (fun _ => rfl) (fun n τ x => ∃ i, k ≤ i ∧ i ≤ T.length - 1 ∧ x = nI i ∧ n = T.length - 1 - i ∧ fr (Xrg 64 (21 * L)) σ τ ∧ τ.1 64 (21 * L) = nI (T.length - 1) ∧ (∀ j, j < i → τ.1 64 (21 * L + 1 + j) = nI (nw (T.eraseIdx k) j)) ∧ ∀ j, i ≤ j → j < T.length → τ.1 64 (21 * L + 1 + j) = nI (nw T j)) ?_ (n := T.length - 1 - k) ⟨k, by omega, by omega, rfl, rfl, fr_sI fr_rfl _ (Xrg_in (by omega) (by omega)), sI_in _ _ _ _, fun j hj => ?_, fun j h1 h2 => ?_⟩
  · rintro n τ x Rc ⟨i, hi, hi2, rfl, hn, hf, hz, ha, hb⟩ hR
    unfold m_X9_dropOn_L15b
    refine p_manyR hz hL ?_
    rw [nI_le' (by omega) (by omega)]
    refine ⟨fun q => ?_, fun q => ?_⟩
    · have e : i = T.length - 1 := by omega
      subst e
      refine h τ ⟨by rw [hz, erase_len T hk], fun j hj => ha j ?_⟩ hf
      rw [erase_len T hk] at hj; exact hj
    · rw [ixB, ixA, nI_cl (by omega), nI_cl (by omega)]
      refine ⟨vp_n (by omega) (by omega), vp_n (by omega) (by omega), ?_⟩
      unfold sIB
      rw [nI_1]
      refine hR (T.length - 1 - (i + 1)) _ _ (by omega) ⟨i + 1, by omega, by omega, rfl, rfl, fr_sI hf _ (Xrg_in (by omega) (by omega)), ?_, fun j hj => ?_, fun j h1 h2 => ?_⟩
      · rw [sI_out _ _ (by omega)]; exact hz
      · by_cases e : j = i
        · subst e
          rw [sI_in, show 21 * L + 2 + j = 21 * L + 1 + (j + 1) by omega, hb (j + 1) (by omega) (by omega), nw_erase, if_neg (by omega)]
        · rw [sI_out _ _ (by omega)]; exact ha j (by omega)
      · rw [sI_out _ _ (by omega)]; exact hb j (by omega) h2
  · rw [sI_out _ _ (by omega), hN.2 j (by omega), nw_erase, if_pos hj]
  · rw [sI_out _ _ (by omega), hN.2 j h2]
theorem p_swapOn {σ : St} {L : Nat} {T : Tr} {k : Nat} {Q : St → Prop} (hN : NowOK L T σ) (hL : L < 2) (hl : T.length ≤ 20) (hk : k + 1 < T.length) (h : ∀ τ, NowOK L (swp T k) τ → fr (Xrg 64 (21 * L)) σ τ → Q τ) : m_X9_swapOn σ (nI L) (nI k) Q := by
  unfold m_X9_swapOn bI sIB
  rw [ixA, ixB, nI_cl (by omega), nI_cl (by omega)]
  refine ⟨vp_n (by omega) (by omega), vp_n (by omega) (by omega), vp_n (by omega) (by omega), vp_n (by omega) (by omega), ?_⟩
  refine h _ ⟨?_, fun j hj => ?_⟩ (fr_sI (fr_sI fr_rfl _ (Xrg_in (by omega) (by omega))) _ (Xrg_in (by omega) (by omega)))
  · rw [sI_out _ _ (by omega), sI_out _ _ (by omega), swp_len]; exact hN.1
  · rw [swp_len] at hj
    rw [nw_swp T hk]
    by_cases e1 : j = k + 1
    · subst e1
      rw [show 21 * L + 1 + (k + 1) = 21 * L + 2 + k by omega, sI_in, hN.2 k (by omega), if_neg (by omega), if_pos rfl]
    · by_cases e2 : j = k
      · subst e2
        rw [sI_out _ _ (by omega), sI_in, show 21 * L + 2 + j = 21 * L + 1 + (j + 1) by omega, hN.2 (j + 1) hk, if_pos rfl]
      · rw [sI_out _ _ (by omega), sI_out _ _ (by omega), hN.2 j hj, if_neg e2, if_neg e1]
/-! the row of what was -/
def ActM (B : List Tr) (nx : Nat) (σ : St) : Prop := B.length ≤ 14 ∧ nx < 14 ∧ σ.1 61 10 = nI B.length ∧ σ.1 61 11 = nI nx ∧ ∀ j, j < B.length → EncAt 69 (21 * ((nx + 14 - B.length + j) % 14)) (B.getD j []) σ ∧ (B.getD j []).length ≤ 20
def pushA (B : List Tr) (T : Tr) : List Tr := if B.length < 14 then B ++ [T] else B.drop 1 ++ [T]
theorem ActM.fr {B : List Tr} {nx : Nat} {σ τ : St} {X : Nat → Nat → Bool} (h : ActM B nx σ) (hf : fr X σ τ) (h1 : X 61 10 = false) (h2 : X 61 11 = false) (hX : ∀ i, X 69 i = false) : ActM B nx τ := ⟨h.1, h.2.1, (hf.1 _ _ h1).trans h.2.2.1, (hf.1 _ _ h2).trans h.2.2.2.1, fun j hj => ⟨(h.2.2.2.2 j hj).1.fr (h.2.2.2.2 j hj).2 hf (fun i _ _ => hX i), (h.2.2.2.2 j hj).2⟩⟩
def Xka (c i : Nat) : Bool := c == 69 || (c == 61 && (i == 10 || i == 11))
theorem p_keepAct {σ : St} {T : Tr} {B : List Tr} {nx : Nat} {Q : St → Prop} (hN : NowOK 0 T σ) (hl : T.length ≤ 20) (hA : ActM B nx σ) (h : ∀ τ, ActM (pushA B T) ((nx + 1) % 14) τ → fr Xka σ τ → Q τ) : m_X9_keepAct σ Q := by
  obtain ⟨hB, hnx, ha, hx, hE⟩ := hA
  unfold m_X9_keepAct
  refine lpE1 (m_X9_keepAct_L2b Q (fun σ => m_X9_keepAct_J34 Q σ)) (fun _ => rfl) (fun n τ x => ∃ k, k ≤ 21 ∧ x = nI k ∧ n = 21 - k ∧ fr (Xrg 69 (21 * nx)) σ τ ∧ ∀ j, j < k → τ.1 69 (21 * nx + j) = σ.1 64 (0 + j)) ?_ (n := 21) ⟨0, by omega, rfl, rfl, fr_rfl, fun j q => by omega⟩
  rintro n τ x Rc ⟨k, hk, rfl, hn, hf, hj⟩ hR
  unfold m_X9_keepAct_L2b
  rw [hf.1 61 11 (Xrg_c (by omega)), hx, show (21 : Int32) = nI 21 from rfl, nI_le' (by omega) (by omega)]
  refine ⟨fun q => ?_, fun q => ?_⟩
  · have e : k = 21 := by omega
    subst e
    unfold m_X9_keepAct_J34 sIB
    dsimp only
    rw [hf.1 61 11 (Xrg_c (by omega)), hx, nI_1, show (14 : Int32) = nI 14 from rfl, pk_rem (by omega) (by omega) (by omega)]
    rw [sI_out (a := 61) (j := 10) _ _ (by omega), hf.1 61 10 (Xrg_c (by omega)), ha, nI_le' (by omega) (by omega)]
    have hfx : fr Xka σ τ := fr_mono hf (fun c i q => by
      simp only [Xka, Bool.or_eq_false_iff] at q
      exact Xrg_c (by simpa using q.1))
    have hnew : EncAt 69 (21 * nx) T τ := EncAt.copy (b := 0) (c := 64) ⟨hN.1, hN.2⟩ hl hj
    have hmod : (nx + 1) % 14 < 14 := Nat.mod_lt _ (by omega)
    refine ⟨fun q2 => ?_, fun q2 => ?_⟩
    · have hB14 : B.length = 14 := by omega
      refine h _ ⟨?_, hmod, ?_, ?_, fun j hj' => ?_⟩ (fr_sI (fr_sI hfx _ rfl) _ rfl)
      · simp [pushA, hB14]
      · rw [sI_in]; simp [pushA, hB14]
      · rw [sI_out _ _ (by omega), sI_in]
      · have hpl : (pushA B T).length = 14 := by simp [pushA, hB14]
        rw [hpl] at hj' ⊢
        have keep : ∀ {b : Nat} {U : Tr}, EncAt 69 b U τ → U.length ≤ 20 → EncAt 69 b U (sI (sI τ 61 11 (nI ((nx + 1) % 14))) 61 10 (nI 14)) := fun hE' hU => hE'.fr (X := fun c _ => c == 61) hU (fr_sI (fr_sI fr_rfl _ rfl) _ rfl) (fun _ _ _ => rfl)
        by_cases e : j = 13
        · subst e
          have e2 : (pushA B T).getD 13 [] = T := by
            simp [pushA, hB14, List.getD_eq_getElem?_getD, List.getElem?_append_right]
          rw [e2, show ((nx + 1) % 14 + 14 - 14 + 13) % 14 = nx by omega]
          exact ⟨keep hnew hl, hl⟩
        · have e2 : (pushA B T).getD j [] = B.getD (j + 1) [] := by
            simp only [pushA, hB14, Nat.lt_irrefl, if_false, List.getD_eq_getElem?_getD]
            rw [List.getElem?_append_left (by simp [hB14]; omega), List.getElem?_drop]
            rw [Nat.add_comm 1 j]
          rw [e2]
          have hEj := hE (j + 1) (by omega)
          rw [hB14] at hEj
          rw [show ((nx + 1) % 14 + 14 - 14 + j) % 14 = (nx + 14 - 14 + (j + 1)) % 14 by omega]
          refine ⟨keep (hEj.1.fr hEj.2 hf (fun i h1 h2 => Xrg_out ?_)) hEj.2, hEj.2⟩
          have : (nx + 14 - 14 + (j + 1)) % 14 ≠ nx := by omega
          omega
    · have hB14 : B.length < 14 := by omega
      refine h _ ⟨?_, hmod, ?_, ?_, fun j hj' => ?_⟩ (fr_sI (fr_sI hfx _ rfl) _ rfl)
      · simp [pushA, hB14]; omega
      · rw [sI_in, nI_1]; simp [pushA, hB14]
      · rw [sI_out _ _ (by omega), sI_in]
      · have hpl : (pushA B T).length = B.length + 1 := by simp [pushA, hB14]
        rw [hpl] at hj' ⊢
        have keep : ∀ {b : Nat} {U : Tr} {v : Int32}, EncAt 69 b U τ → U.length ≤ 20 → EncAt 69 b U (sI (sI τ 61 11 (nI ((nx + 1) % 14))) 61 10 v) := fun hE' hU => hE'.fr (X := fun c _ => c == 61) hU (fr_sI (fr_sI fr_rfl _ rfl) _ rfl) (fun _ _ _ => rfl)
        by_cases e : j = B.length
        · subst e
          have e2 : (pushA B T).getD B.length [] = T := by
            simp [pushA, hB14, List.getD_eq_getElem?_getD]
          rw [e2, show ((nx + 1) % 14 + 14 - (B.length + 1) + B.length) % 14 = nx by omega]
          exact ⟨keep hnew hl, hl⟩
        · have e2 : (pushA B T).getD j [] = B.getD j [] := by
            simp only [pushA, hB14, if_true]
            exact getD_app_lt _ _ _ (by omega)
          rw [e2]
          have hEj := hE j (by omega)
          rw [show ((nx + 1) % 14 + 14 - (B.length + 1) + j) % 14 = (nx + 14 - B.length + j) % 14 by omega]
          refine ⟨keep (hEj.1.fr hEj.2 hf (fun i h1 h2 => Xrg_out ?_)) hEj.2, hEj.2⟩
          have : (nx + 14 - B.length + j) % 14 ≠ nx := by omega
          omega
  · rw [pk_mul, nI_add, nI_cl (by omega), nI_cl (by omega)]
    refine ⟨vp_n (by omega) (by omega), vp_n (by omega) (by omega), ?_⟩
    unfold sIB
    rw [nI_1]
    refine hR (21 - (k + 1)) _ _ (by omega) ⟨k + 1, by omega, rfl, rfl, fr_sI hf _ (Xrg_in (by omega) (by omega)), fun j hj' => ?_⟩
    by_cases e : j = k
    · subst e
      rw [sI_in, hf.1 64 j (Xrg_c (by omega)), Nat.zero_add]
    · rw [sI_out _ _ (by omega)]; exact hj j (by omega)
