/-! ===== what a watched cell comes to ===== -/
/-- state, candidates, owner, by which step it is flagged, touches -/
abbrev W5 : Type := Nat × Int32 × Int32 × Int32 × Nat
def w5i : W5 := (0, 15, -9, -9, 0)
def w3 (T : Tr) (lk : Int32) (s : W5) (k : Nat) : Nat × Int32 × Int32 :=
  if s.1 = 0 then (1, s.2.1, nI (th T k))
  else if s.1 = 1 ∧ nI (th T k) ≠ s.2.2.1 then (if sg T k = 4 then 3 else 2, gd T k &&& lk, s.2.2.1)
  else if 1 < s.1 then (if sg T k = 4 then 3 else s.1, s.2.1 &&& (gd T k &&& lk), s.2.2.1)
  else (s.1, s.2.1, s.2.2.1)
def w5s (T : Tr) (lk : Int32) (s : W5) (k : Nat) : W5 :=
  ((w3 T lk s k).1, (w3 T lk s k).2.1, (w3 T lk s k).2.2, if s.2.2.2.1 = -9 ∧ (w3 T lk s k).1 = 3 ∧ (w3 T lk s k).2.1 = 0 then nI k else s.2.2.2.1, s.2.2.2.2 + 1)
def wf (T : Tr) (c : Nat) (lk : Int32) (u : Nat → Bool) : Nat → W5
  | 0 => w5i
  | k + 1 => if tcof T k c && !u k then w5s T lk (wf T c lk u k) k else wf T c lk u k
def WCell (s : W5) (σ : St) : Prop := σ.1 61 13 = nI s.1 ∧ σ.1 61 14 = s.2.1 ∧ σ.1 61 15 = s.2.2.1 ∧ σ.1 61 16 = s.2.2.2.1 ∧ σ.1 61 17 = nI s.2.2.2.2
def XW (c i : Nat) : Bool := c == 61 && (i == 13 || i == 14 || i == 15 || i == 16 || i == 17)
theorem XW_keep : ∀ c i, PF c i = true → XW c i = false := by
  intro c i h
  simp only [PF, XW, Bool.or_eq_true, Bool.and_eq_true, beq_iff_eq, decide_eq_true_eq, Bool.or_eq_false_iff, Bool.and_eq_false_iff, beq_eq_false_iff_ne] at h ⊢
  omega
theorem HeldM.fr {T : Tr} {σ τ : St} {X : Nat → Nat → Bool} (h : HeldM T σ) (hf : fr X σ τ) (h1 : ∀ i, X 67 i = false) (h2 : ∀ i, X 68 i = false) : HeldM T τ := fun k hk => ⟨(hf.1 _ _ (h1 k)).trans (h k hk).1, (hf.1 _ _ (h2 k)).trans (h k hk).2⟩
theorem w3_small {T : Tr} {lk : Int32} {s : W5} {k : Nat} (h : s.1 < 4) : (w3 T lk s k).1 < 4 := by
  unfold w3
  split
  · exact (by decide : 1 < 4)
  split
  · dsimp only; split <;> omega
  split
  · dsimp only; split <;> omega
  · exact h
theorem wf_small (T : Tr) (c : Nat) (lk : Int32) (u : Nat → Bool) : ∀ n, (wf T c lk u n).1 < 4 ∧ (wf T c lk u n).2.2.2.2 ≤ n
  | 0 => ⟨(by decide : (0 : Nat) < 4), Nat.le_refl _⟩
  | k + 1 => by
    have ih := wf_small T c lk u k
    unfold wf
    split
    · exact ⟨w3_small ih.1, Nat.succ_le_succ ih.2⟩
    · exact ⟨ih.1, Nat.le_succ_of_le ih.2⟩
theorem p_guardsOf {σ : St} {L : Nat} {T : Tr} {k : Nat} {Q : Int32 → St → Prop} (hN : NowOK L T σ) (hB : Bnd T) (hH : HeldM T σ) (hL : L < 2) (hk : k < T.length) (ht : tch T k = true) (h : Q (gd T k) σ) : m_X9_guardsOf σ (nI L) (nI k) Q := by
  unfold m_X9_guardsOf
  have hb := hB.1
  refine p_signAt hN hB hL hk ?_
  have hs := (hB.2 k hk).2.1
  rw [show (3 : Int32) = nI 3 from rfl, nI_eq' (by omega) (by omega), nI_cl (by omega), (hH k hk).1, (hH k hk).2]
  have v : vp_in (nI k) 20 := vp_n (by omega) (by omega)
  unfold gd at h
  unfold tch at ht
  simp only [Bool.or_eq_true, decide_eq_true_eq] at ht
  refine ⟨fun q => ⟨v, ?_⟩, fun q => ⟨v, v, ?_⟩⟩
  · rw [if_pos (by omega)] at h; exact h
  · rw [if_neg (by omega)] at h; exact h
theorem p_watch {σ : St} {L : Nat} {T : Tr} {k : Nat} {lk : Int32} {s : W5} {Q : St → Prop} (hN : NowOK L T σ) (hB : Bnd T) (hH : HeldM T σ) (hL : L < 2) (hk : k < T.length) (ht : tch T k = true) (hs : WCell s σ) (h4 : s.1 < 4) (h20 : s.2.2.2.2 ≤ 20) (h : ∀ τ, WCell (w5s T lk s k) τ → fr XW σ τ → Q τ) : m_X9_watch σ (nI L) (nI k) lk Q := by
  obtain ⟨c1, c2, c3, c4, c5⟩ := hs
  have hb := hB.1
  obtain ⟨b1, b2, b3⟩ := hB.2 k hk
  -- the end: what is flagged
  have E : ∀ (τ : St) (x y z : Int32) (m : Nat), m < 4 → x = nI m → (m, y, z) = w3 T lk s k → τ.1 61 13 = x → τ.1 61 14 = y → τ.1 61 15 = z → τ.1 61 16 = s.2.2.2.1 → τ.1 61 17 = nI (s.2.2.2.2 + 1) → fr XW σ τ → m_X9_watch_J142 (nI L) (nI k) lk Q τ := by
    intro τ x y z m hm hx hw t1 t2 t3 t4 t5 hf
    unfold m_X9_watch_J142 sIB
    rw [t4, t1, t2, hx, show (3 : Int32) = nI 3 from rfl, nI_eq' (by omega) (by omega)]
    have fin : ∀ v, (v = if s.2.2.2.1 = -9 ∧ m = 3 ∧ y = 0 then nI k else s.2.2.2.1) → Q (sI τ 61 16 v) := by
      intro v hv
      refine h _ ⟨?_, ?_, ?_, ?_, ?_⟩ (fr_sI hf _ rfl)
      · rw [sI_out _ _ (by omega), t1, hx]; show nI m = nI (w3 T lk s k).1; rw [← hw]
      · rw [sI_out _ _ (by omega), t2]; show y = (w3 T lk s k).2.1; rw [← hw]
      · rw [sI_out _ _ (by omega), t3]; show z = (w3 T lk s k).2.2; rw [← hw]
      · rw [sI_in, hv]
        show _ = if s.2.2.2.1 = -9 ∧ (w3 T lk s k).1 = 3 ∧ (w3 T lk s k).2.1 = 0 then nI k else s.2.2.2.1
        rw [← hw]
      · rw [sI_out _ _ (by omega), t5]; rfl
    refine ⟨fun q => fin _ (by rw [if_neg (fun w => q w.1)]), fun q => ⟨fun q2 => fin _ (by rw [if_neg (fun w => q2 w.2.1)]), fun q2 => ⟨fun q3 => fin _ (by rw [if_neg (fun w => q3 w.2.2)]), fun q3 => fin _ (by rw [if_pos ⟨q, q2, q3⟩])⟩⟩⟩
  have M : ∀ (t0 : Int32), (t0 = 0 ↔ sg T k ≠ 4) → m_X9_watch_J15 (nI L) (nI k) lk Q σ t0 := by
    intro t0 ht0
    unfold m_X9_watch_J15
    refine p_guardsOf hN hB hH hL hk ht (bI_i ?_)
    refine p_threadAt hN hB hL hk ?_
    unfold sIB
    dsimp only
    rw [c5, nI_1]
    generalize hσ1 : sI σ 61 17 (nI (s.2.2.2.2 + 1)) = σ1
    have d1 : σ1.1 61 13 = nI s.1 := by rw [← hσ1, sI_out _ _ (by omega), c1]
    have d2 : σ1.1 61 14 = s.2.1 := by rw [← hσ1, sI_out _ _ (by omega), c2]
    have d3 : σ1.1 61 15 = s.2.2.1 := by rw [← hσ1, sI_out _ _ (by omega), c3]
    have d4 : σ1.1 61 16 = s.2.2.2.1 := by rw [← hσ1, sI_out _ _ (by omega), c4]
    have d5 : σ1.1 61 17 = nI (s.2.2.2.2 + 1) := by rw [← hσ1, sI_in]
    have df : fr XW σ σ1 := by rw [← hσ1]; exact fr_sI fr_rfl _ rfl
    rw [d1, d3, show (0 : Int32) = nI 0 from rfl, nI_eq' (by omega) (by omega), show (1 : Int32) = nI 1 from rfl, nI_eq' (by omega) (by omega)]
    have J106 : (¬ s.1 = 0) → (s.1 = 1 → nI (th T k) = s.2.2.1) → m_X9_watch_J106 (nI L) (nI k) lk Q σ1 t0 (gd T k &&& lk) := by
      intro z1 z2
      unfold m_X9_watch_J106
      rw [d1, show (1 : Int32) = nI 1 from rfl, nI_le' (by omega) (by omega)]
      refine ⟨fun q => ?_, fun q => ?_⟩
      · have e1 : s.1 = 1 := by omega
        refine E σ1 (nI s.1) s.2.1 s.2.2.1 s.1 h4 rfl ?_ d1 d2 d3 d4 d5 df
        unfold w3
        rw [if_neg z1, if_neg (fun w => w.2 (z2 e1)), if_neg (by omega)]
      · have ew : ∀ m, m = (if sg T k = 4 then 3 else s.1) → m_X9_watch_J128 (nI L) (nI k) lk Q σ1 (gd T k &&& lk) (nI m) := by
          intro m hm
          have hm4 : m < 4 := by rw [hm]; split <;> omega
          unfold m_X9_watch_J128 sIB
          dsimp only
          rw [sI_out (a := 61) (j := 14) _ _ (by omega), d2]
          refine E _ (nI m) (s.2.1 &&& (gd T k &&& lk)) s.2.2.1 m hm4 rfl ?_ ?_ ?_ ?_ ?_ ?_ (fr_sI (fr_sI df _ rfl) _ rfl)
          · unfold w3
            rw [if_neg z1, if_neg (fun w => by omega), if_pos (by omega), hm]
          · rw [sI_out _ _ (by omega), sI_in]
          · rw [sI_in]
          · rw [sI_out _ _ (by omega), sI_out _ _ (by omega), d3]
          · rw [sI_out _ _ (by omega), sI_out _ _ (by omega), d4]
          · rw [sI_out _ _ (by omega), sI_out _ _ (by omega), d5]
        refine ⟨fun q2 => ew s.1 (by rw [if_neg (ht0.mp q2)]), fun q2 => ew 3 ?_⟩
        rw [if_pos]
        exact Classical.byContradiction (fun w => q2 (ht0.mpr w))
    refine ⟨fun z1 => ⟨fun z2 => J106 z1 (fun w => absurd w z2), fun z2 => ⟨fun z3 => J106 z1 (fun _ => z3), fun z3 => ?_⟩⟩, fun z1 => ?_⟩
    · have ew : ∀ m, m = (if sg T k = 4 then 3 else 2) → m_X9_watch_J94 (nI L) (nI k) lk Q σ1 (gd T k &&& lk) (nI m) := by
        intro m hm
        have hm4 : m < 4 := by rw [hm]; split <;> omega
        unfold m_X9_watch_J94 sIB
        refine E _ (nI m) (gd T k &&& lk) s.2.2.1 m hm4 rfl ?_ ?_ ?_ ?_ ?_ ?_ (fr_sI (fr_sI df _ rfl) _ rfl)
        · unfold w3
          rw [if_neg z1, if_pos ⟨z2, z3⟩, hm]
        · rw [sI_out _ _ (by omega), sI_in]
        · rw [sI_in]
        · rw [sI_out _ _ (by omega), sI_out _ _ (by omega), d3]
        · rw [sI_out _ _ (by omega), sI_out _ _ (by omega), d4]
        · rw [sI_out _ _ (by omega), sI_out _ _ (by omega), d5]
      refine ⟨fun q2 => ew 2 (by rw [if_neg (ht0.mp q2)]), fun q2 => ew 3 ?_⟩
      rw [if_pos]
      exact Classical.byContradiction (fun w => q2 (ht0.mpr w))
    · refine E _ (nI 1) s.2.1 (nI (th T k)) 1 (by omega) rfl ?_ ?_ ?_ ?_ ?_ ?_ (fr_sI (fr_sI df _ rfl) _ rfl)
      · unfold w3; rw [if_pos z1]
      · rw [sI_out _ _ (by omega), sI_in]
      · rw [sI_out _ _ (by omega), sI_out _ _ (by omega), d2]
      · rw [sI_in]
      · rw [sI_out _ _ (by omega), sI_out _ _ (by omega), d4]
      · rw [sI_out _ _ (by omega), sI_out _ _ (by omega), d5]
  unfold m_X9_watch
  refine p_signAt hN hB hL hk ?_
  rw [show (4 : Int32) = nI 4 from rfl, nI_eq' (by omega) (by omega)]
  exact ⟨fun q => M 0 ⟨fun _ => q, fun _ => rfl⟩, fun q => M 1 ⟨fun w => absurd w (by decide), fun w => absurd q w⟩⟩
theorem p_watchCell {σ : St} {L : Nat} {T : Tr} {c n : Nat} {lk un : Int32} {Q : St → Prop} (hN : NowOK L T σ) (hB : Bnd T) (hH : HeldM T σ) (hL : L < 2) (hc : c < 4) (hn : n ≤ T.length) (h : ∀ τ, WCell (wf T c lk (bt un) n) τ → fr XW σ τ → Q τ) : m_X9_watchCell σ (nI L) (nI c) (nI n) lk un Q := by
  unfold m_X9_watchCell sIB
  have hb := hB.1
  refine lpE1 (m_X9_watchCell_L31b (nI L) (nI c) (nI n) lk un Q (fun σ => m_X9_watchCell_J73 (nI L) (nI c) (nI n) lk un Q σ)) (fun _ => rfl) (fun m τ x => ∃ k, k ≤ n ∧ x = nI k ∧ m = n - k ∧ fr XW σ τ ∧ WCell (wf T c lk (bt un) k) τ) ?_ (n := n) ⟨0, by omega, rfl, rfl, fr_sI (fr_sI (fr_sI (fr_sI (fr_sI fr_rfl _ rfl) _ rfl) _ rfl) _ rfl) _ rfl, ?_⟩
  · rintro m τ x Rc ⟨k, hk, rfl, hm, hf, hW⟩ hR
    unfold m_X9_watchCell_L31b
    rw [nI_le' (by omega) (by omega)]
    refine ⟨fun q => ?_, fun q => ?_⟩
    · have e : k = n := by omega
      subst e
      exact h τ hW hf
    have hk' : k < T.length := by omega
    have hN' := hN.fr hf (fun _ => rfl)
    have hH' := hH.fr hf (fun _ => rfl) (fun _ => rfl)
    rw [nI_1]
    have skip : (tcof T k c && !bt un k) = false → Rc τ (nI (k + 1)) := by
      intro hz
      refine hR (n - (k + 1)) _ _ (by omega) ⟨k + 1, by omega, rfl, rfl, hf, ?_⟩
      unfold wf
      rw [hz]
      exact hW
    refine p_isTouchOf hN' hB hL hk' hc ?_
    cases ht : tcof T k c
    · exact ⟨fun _ => skip (by rw [ht]; rfl), fun z => absurd rfl z⟩
    refine ⟨fun z => absurd z (by decide), fun _ => ?_⟩
    refine p_has (by omega) ?_
    cases hu : bt un k
    rotate_left
    · exact ⟨fun _ => skip (by rw [ht, hu]; rfl), fun z => absurd z (by decide)⟩
    refine ⟨fun z => absurd rfl z, fun _ => ?_⟩
    have ht' : tch T k = true := by
      unfold tcof at ht
      rw [Bool.and_eq_true] at ht
      exact ht.1
    have sml := wf_small T c lk (bt un) k
    refine p_watch hN' hB hH' hL hk' ht' hW sml.1 (by omega) (fun υ hWu hfu => ?_)
    refine hR (n - (k + 1)) _ _ (by omega) ⟨k + 1, by omega, rfl, rfl, fr_tr hf hfu, ?_⟩
    unfold wf
    rw [ht, hu]
    exact hWu
  · refine ⟨?_, ?_, ?_, ?_, sI_in _ _ _ _⟩
    · rw [sI_out _ _ (by omega), sI_out _ _ (by omega), sI_out _ _ (by omega), sI_out _ _ (by omega), sI_in]; rfl
    · rw [sI_out _ _ (by omega), sI_out _ _ (by omega), sI_out _ _ (by omega), sI_in]; rfl
    · rw [sI_out _ _ (by omega), sI_out _ _ (by omega), sI_in]; rfl
    · rw [sI_out _ _ (by omega), sI_in]; rfl
