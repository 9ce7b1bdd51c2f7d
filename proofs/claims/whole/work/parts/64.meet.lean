/-! ===== pairs of touches that may meet ===== -/
def am (T : Tr) (k e : Nat) : Bool := decide (th T k ≠ th T e) && ((decide (sg T k = 4) || decide (sg T e = 4)) && (!bt (bf T e) k && decide ((gd T k &&& gd T e) = 0)))
def meet (T : Tr) (c k e : Nat) : Bool := tcof T k c && (tcof T e c && am T k e)
def ms (T : Tr) (c k : Nat) (s : Nat × Int32) (e : Nat) : Nat × Int32 := if meet T c k e then (s.1 + 1, if s.1 = 0 then nI (100 * k + e) else s.2) else s
def mr (T : Tr) (c k : Nat) (s : Nat × Int32) : Nat → Nat × Int32
  | 0 => s
  | d + 1 => ms T c k (mr T c k s d) (k + 1 + d)
def mt (T : Tr) (c : Nat) : Nat → Nat × Int32
  | 0 => (0, -9)
  | k + 1 => mr T c k (mt T c k) (T.length - (k + 1))
theorem mr_le (T : Tr) (c k : Nat) (s : Nat × Int32) : ∀ d, (mr T c k s d).1 ≤ s.1 + d
  | 0 => Nat.le_refl _
  | d + 1 => by have := mr_le T c k s d; rw [mr, ms]; split <;> (try dsimp only) <;> omega
theorem mt_le (T : Tr) (c : Nat) (hl : T.length ≤ 20) : ∀ k, (mt T c k).1 ≤ 20 * k
  | 0 => Nat.le_refl _
  | k + 1 => by have := mt_le T c hl k; have := mr_le T c k (mt T c k) (T.length - (k + 1)); rw [mt]; omega
theorem ms_stay (T : Tr) (c k : Nat) (s : Nat × Int32) (e : Nat) (h : s.1 ≠ 0) : (ms T c k s e).1 ≠ 0 ∧ (ms T c k s e).2 = s.2 := by
  unfold ms
  split
  · exact ⟨by dsimp only; omega, by simp [h]⟩
  · exact ⟨h, rfl⟩
theorem mr_stay (T : Tr) (c k : Nat) (s : Nat × Int32) (d : Nat) (h : (mr T c k s d).1 ≠ 0) : ∀ j, (mr T c k s (d + j)).1 ≠ 0 ∧ (mr T c k s (d + j)).2 = (mr T c k s d).2
  | 0 => ⟨h, rfl⟩
  | j + 1 => by
    have ih := mr_stay T c k s d h j
    have := ms_stay T c k (mr T c k s (d + j)) (k + 1 + (d + j)) ih.1
    exact ⟨this.1, this.2.trans ih.2⟩
theorem mt_stay (T : Tr) (c k : Nat) (h : (mt T c k).1 ≠ 0) : ∀ j, (mt T c (k + j)).1 ≠ 0 ∧ (mt T c (k + j)).2 = (mt T c k).2
  | 0 => ⟨h, rfl⟩
  | j + 1 => by
    have ih := mt_stay T c k h j
    have := mr_stay T c (k + j) (mt T c (k + j)) 0 ih.1 (T.length - (k + j + 1))
    rw [Nat.zero_add] at this
    exact ⟨this.1, this.2.trans ih.2⟩
def mOK (s : Nat × Int32) : Prop := (s.1 = 0 ∧ s.2 = -9) ∨ (s.1 ≠ 0 ∧ ∃ v, v < 10000 ∧ s.2 = nI v)
theorem ms_ok {T : Tr} {c k : Nat} {s : Nat × Int32} {e : Nat} (hk : k < 20) (he : e < 20) (h : mOK s) : mOK (ms T c k s e) := by
  unfold ms
  split
  · right
    refine ⟨by dsimp only; omega, ?_⟩
    dsimp only
    rcases h with h | ⟨h1, v, h2, h3⟩
    · rw [if_pos h.1]; exact ⟨100 * k + e, by omega, rfl⟩
    · rw [if_neg h1]; exact ⟨v, h2, h3⟩
  · exact h
theorem mr_ok {T : Tr} {c k : Nat} {s : Nat × Int32} (hk : k < 20) (h : mOK s) : ∀ d, k + 1 + d ≤ 20 → mOK (mr T c k s d)
  | 0, _ => h
  | d + 1, q => ms_ok hk (by omega) (mr_ok hk h d (by omega))
theorem mt_ok {T : Tr} {c : Nat} (hl : T.length ≤ 20) : ∀ k, k ≤ T.length → mOK (mt T c k)
  | 0, _ => Or.inl ⟨rfl, rfl⟩
  | k + 1, q => mr_ok (by omega) (mt_ok hl k (by omega)) _ (by omega)
theorem p_areMeeting {σ : St} {T : Tr} {k e : Nat} {Q : Int32 → St → Prop} (hN : NowOK 0 T σ) (hB : Bnd T) (hH : HeldM T σ) (hb : ∀ k, k < T.length → σ.1 70 k = bf T k) (hk : k < T.length) (he : e < T.length) (tk : tch T k = true) (te : tch T e = true) (h : Q (if am T k e then 1 else 0) σ) : m_X9_areMeeting σ (nI k) (nI e) Q := by
  unfold m_X9_areMeeting
  have hl := hB.1
  obtain ⟨b1, b2, b3⟩ := hB.2 k hk
  obtain ⟨c1, c2, c3⟩ := hB.2 e he
  refine p_threadAt (L := 0) hN hB (by omega) hk ?_
  refine p_threadAt (L := 0) hN hB (by omega) he ?_
  rw [nI_eq' (by omega) (by omega)]
  unfold am at h
  -- the last check
  have J46 : ∀ (x t : Int32), (x = if decide (th T k ≠ th T e) then 1 else 0) → (t = if (decide (sg T k = 4) || decide (sg T e = 4)) then 1 else 0) → m_X9_areMeeting_J46 (nI k) (nI e) Q σ x t := by
    intro x t hx ht
    unfold m_X9_areMeeting_J46
    cases h1 : decide (th T k ≠ th T e)
    · rw [h1] at hx h
      refine ⟨fun _ => by simpa using h, fun z => absurd (by simpa using hx) z⟩
    · rw [h1] at hx h
      refine ⟨fun z => absurd z (by rw [hx]; decide), fun _ => ?_⟩
      cases h2 : (decide (sg T k = 4) || decide (sg T e = 4))
      · rw [h2] at ht h
        exact ⟨fun _ => by simpa using h, fun z => absurd (by simpa using ht) z⟩
      · rw [h2] at ht h
        refine ⟨fun z => absurd z (by rw [ht]; decide), fun _ => ⟨vp_n (by omega) (by omega), ?_⟩⟩
        rw [nI_cl (by omega), hb e he]
        refine p_has (by omega) ?_
        cases h3 : bt (bf T e) k
        · refine ⟨fun z => absurd rfl z, fun _ => ?_⟩
          refine p_guardsOf (L := 0) hN hB hH (by omega) hk tk ?_
          refine p_guardsOf (L := 0) hN hB hH (by omega) he te ?_
          rw [h3] at h
          refine ⟨fun z => ?_, fun z => ?_⟩
          · simpa [z] using h
          · simpa [z] using h
        · rw [h3] at h
          exact ⟨fun _ => by simpa using h, fun z => absurd z (by decide)⟩
  have J20 : ∀ x : Int32, (x = if decide (th T k ≠ th T e) then 1 else 0) → m_X9_areMeeting_J20 (nI k) (nI e) Q σ x := by
    intro x hx
    unfold m_X9_areMeeting_J20
    refine p_signAt (L := 0) hN hB (by omega) hk ?_
    rw [show (4 : Int32) = nI 4 from rfl, nI_eq' (by omega) (by omega)]
    refine ⟨fun q => J46 x 1 hx (by simp [q]), fun q => ?_⟩
    refine p_signAt (L := 0) hN hB (by omega) he ?_
    rw [nI_eq' (by omega) (by omega)]
    exact ⟨fun q2 => J46 x 0 hx (by simp [q, q2]), fun q2 => J46 x 1 hx (by simp [q2])⟩
  exact ⟨fun q => J20 0 (by simp [q]), fun q => J20 1 (by simp [q])⟩
def X19 (c i : Nat) : Bool := c == 61 && i == 19
theorem X19_keep : ∀ c i, PF c i = true → X19 c i = false := by
  intro c i h
  simp only [PF, X19, Bool.or_eq_true, Bool.and_eq_true, beq_iff_eq, decide_eq_true_eq, Bool.or_eq_false_iff, Bool.and_eq_false_iff, beq_eq_false_iff_ne] at h ⊢
  omega
theorem p_meetingsOf {σ : St} {T : Tr} {c : Nat} {Q : Int32 → St → Prop} (hN : NowOK 0 T σ) (hB : Bnd T) (hH : HeldM T σ) (hb : ∀ k, k < T.length → σ.1 70 k = bf T k) (hc : c < 4) (h : ∀ τ, τ.1 61 19 = (mt T c T.length).2 → fr X19 σ τ → Q (nI (mt T c T.length).1) τ) : m_X9_meetingsOf σ (nI c) Q := by
  unfold m_X9_meetingsOf sIB
  have hl := hB.1
  refine lpE2 (m_X9_meetingsOf_L10b (nI c) Q (fun σ x2 => m_X9_meetingsOf_J102 (nI c) Q σ x2)) (fun _ => rfl) (fun m τ x y => ∃ k, k ≤ T.length ∧ y = nI k ∧ m = T.length - k ∧ fr X19 σ τ ∧ x = nI (mt T c k).1 ∧ τ.1 61 19 = (mt T c k).2) ?_ (n := T.length) ⟨0, by omega, rfl, rfl, fr_sI fr_rfl _ rfl, rfl, by rw [sI_in]; rfl⟩
  rintro m τ x y Rc ⟨k, hk, rfl, hm, hf, rfl, h19⟩ hR
  unfold m_X9_meetingsOf_L10b
  have hN1 := hN.fr hf (fun _ => rfl)
  refine p_many (L := 0) hN1 (by omega) ?_
  rw [nI_le' (by omega) (by omega)]
  refine ⟨fun q => ?_, fun q => bI_i ?_⟩
  · have e : k = T.length := by omega
    subst e
    exact h τ h19 hf
  have hkl : k < T.length := by omega
  rw [nI_1]
  have mtl := mt_le T c hl k
  refine lpE2 (m_X9_meetingsOf_L24b (nI c) Q (nI k) (fun σ x2 => m_X9_meetingsOf_J96 (nI c) Q (fun σ x2 => m_X9_meetingsOf_J102 (nI c) Q σ x2) Rc σ x2 (nI k))) (fun _ => rfl) (fun m τ x y => ∃ d, d ≤ T.length - (k + 1) ∧ y = nI (k + 1 + d) ∧ m = T.length - (k + 1) - d ∧ fr X19 σ τ ∧ x = nI (mr T c k (mt T c k) d).1 ∧ τ.1 61 19 = (mr T c k (mt T c k) d).2) ?_ (n := T.length - (k + 1)) ⟨0, by omega, rfl, rfl, hf, rfl, h19⟩
  rintro m2 υ x y Rc2 ⟨d, hd, rfl, hm2, hf2, rfl, h192⟩ hR2
  unfold m_X9_meetingsOf_L24b
  have hN2 := hN.fr hf2 (fun _ => rfl)
  have hH2 := hH.fr hf2 (fun _ => rfl) (fun _ => rfl)
  have hb2 : ∀ k, k < T.length → υ.1 70 k = bf T k := fun k hk => (hf2.1 70 k rfl).trans (hb k hk)
  have mrl := mr_le T c k (mt T c k) d
  refine p_many (L := 0) hN2 (by omega) ?_
  rw [nI_le' (by omega) (by omega)]
  refine ⟨fun q2 => ?_, fun q2 => ?_⟩
  · have e : d = T.length - (k + 1) := by omega
    subst e
    unfold m_X9_meetingsOf_J96
    rw [nI_1]
    exact hR (T.length - (k + 1)) _ _ _ (by omega) ⟨k + 1, by omega, rfl, rfl, hf2, rfl, h192⟩
  have hel : k + 1 + d < T.length := by omega
  have no : meet T c k (k + 1 + d) = false → Rc2 υ (nI (mr T c k (mt T c k) d).1) (nI (k + 1 + d) + 1) := by
    intro z
    rw [nI_1]
    refine hR2 (T.length - (k + 1) - (d + 1)) _ _ _ (by omega) ⟨d + 1, by omega, rfl, rfl, hf2, ?_, ?_⟩
    · rw [mr, ms, z]; rfl
    · rw [mr, ms, z]; exact h192
  have yes : meet T c k (k + 1 + d) = true → ∀ v, v = (if (mr T c k (mt T c k) d).1 = 0 then nI (100 * k + (k + 1 + d)) else (mr T c k (mt T c k) d).2) → Rc2 (sI υ 61 19 v) (nI (mr T c k (mt T c k) d).1 + 1) (nI (k + 1 + d) + 1) := by
    intro z v hv
    rw [nI_1, nI_1]
    refine hR2 (T.length - (k + 1) - (d + 1)) _ _ _ (by omega) ⟨d + 1, by omega, rfl, rfl, fr_sI hf2 _ rfl, ?_, ?_⟩
    · rw [mr, ms, z]; rfl
    · rw [mr, ms, z, sI_in]; exact hv
  refine p_isTouchOf (L := 0) hN2 hB (by omega) hkl hc ?_
  cases t1 : tcof T k c
  · exact ⟨fun _ => no (by simp [meet, t1]), fun z => absurd rfl z⟩
  refine ⟨fun z => absurd z (by decide), fun _ => ?_⟩
  refine p_isTouchOf (L := 0) hN2 hB (by omega) hel hc ?_
  cases t2 : tcof T (k + 1 + d) c
  · exact ⟨fun _ => no (by simp [meet, t2]), fun z => absurd rfl z⟩
  refine ⟨fun z => absurd z (by decide), fun _ => ?_⟩
  have w1 : tch T k = true := by rw [tcof, Bool.and_eq_true] at t1; exact t1.1
  have w2 : tch T (k + 1 + d) = true := by rw [tcof, Bool.and_eq_true] at t2; exact t2.1
  refine p_areMeeting hN2 hB hH2 hb2 hkl hel w1 w2 ?_
  cases t3 : am T k (k + 1 + d)
  · exact ⟨fun _ => no (by simp [meet, t3]), fun z => absurd rfl z⟩
  have mm : meet T c k (k + 1 + d) = true := by simp [meet, t1, t2, t3]
  refine ⟨fun z => absurd z (by decide), fun _ => ?_⟩
  rw [show (0 : Int32) = nI 0 from rfl, nI_eq' (by omega) (by omega)]
  refine ⟨fun z => ?_, fun z => ?_⟩
  · unfold sIB
    exact yes mm _ (by rw [if_neg z]; exact h192)
  · unfold sIB
    refine yes mm _ ?_
    rw [if_pos z, show (100 : Int32) = nI 100 from rfl, pk_mul, nI_add]
/-! the class -/
theorem q_meet {b : Nat} {T : Tr} {σ : St} {c k e : Nat} {Q : Int32 → St → Prop} (hR : RowOK b T σ) (hV : Val T) (hl : T.length ≤ 20) (hc : c < 4) (hk : k < T.length) (he : e < T.length) (h : Q (if meet T c k e then 1 else 0) σ) : m_X1_meet b σ (nI c) (nI k) (nI e) Q := by
  unfold m_X1_meet
  have b1 := (hV k hk).1
  have c1 := (hV e he).1
  unfold meet am at h
  refine r_touchesAt hR hV hl hk hc ?_
  cases t1 : tcof T k c
  · exact ⟨fun _ => by simpa [t1] using h, fun z => absurd rfl z⟩
  refine ⟨fun z => absurd z (by decide), fun _ => ?_⟩
  refine r_touchesAt hR hV hl he hc ?_
  cases t2 : tcof T e c
  · exact ⟨fun _ => by simpa [t2] using h, fun z => absurd rfl z⟩
  refine ⟨fun z => absurd z (by decide), fun _ => ?_⟩
  refine r_threadAt hR hV hl hk ?_
  refine r_threadAt hR hV hl he ?_
  rw [nI_eq' (by omega) (by omega)]
  refine ⟨fun q => by simpa [q] using h, fun q => ?_⟩
  have J : (decide (sg T k = 4) || decide (sg T e = 4)) = true → m_X1_meet_J47 b (nI c) (nI k) (nI e) Q σ := by
    intro w
    unfold m_X1_meet_J47
    rw [t1, t2, w, decide_eq_true q] at h
    refine r_isAhead hR hl he (by omega) ?_
    cases h3 : bt (bf T e) k
    · refine ⟨fun z => absurd rfl z, fun _ => ⟨vp_n (by omega) (by omega), vp_n (by omega) (by omega), ?_⟩⟩
      rw [nI_cl (by omega), nI_cl (by omega), (hR.2.1 k hk).2.2.2.1, (hR.2.1 e he).2.2.2.1]
      refine ⟨fun z => ?_, fun z => ?_⟩
      · simpa [z, h3] using h
      · simpa [z, h3] using h
    · exact ⟨fun _ => by simpa [h3] using h, fun z => absurd z (by decide)⟩
  refine r_writesAt hR hV hl hk ?_
  cases w1 : decide (sg T k = 4)
  · refine ⟨fun z => absurd rfl z, fun _ => ?_⟩
    refine r_writesAt hR hV hl he ?_
    cases w2 : decide (sg T e = 4)
    · exact ⟨fun _ => by simpa [w1, w2] using h, fun z => absurd rfl z⟩
    · exact ⟨fun z => absurd z (by decide), fun _ => J (by rw [w1, w2]; rfl)⟩
  · exact ⟨fun _ => J (by rw [w1]; rfl), fun z => absurd z (by decide)⟩
theorem q_meetingCount {b : Nat} {T : Tr} {σ : St} {c : Nat} {Q : Int32 → St → Prop} (hR : RowOK b T σ) (hV : Val T) (hl : T.length ≤ 20) (hc : c < 4) (h : Q (nI (mt T c T.length).1) σ) : m_X1_meetingCount b σ (nI c) Q := by
  unfold m_X1_meetingCount
  refine lpE2 (m_X1_meetingCount_L4b b (nI c) Q (fun σ x2 => m_X1_meetingCount_J52 b (nI c) Q σ x2)) (fun _ => rfl) (fun m τ x y => ∃ k, k ≤ T.length ∧ y = nI k ∧ m = T.length - k ∧ τ = σ ∧ x = nI (mt T c k).1) ?_ (n := T.length) ⟨0, by omega, rfl, rfl, rfl, rfl⟩
  rintro m τ x y Rc ⟨k, hk, rfl, hm, rfl, rfl⟩ hRc
  unfold m_X1_meetingCount_L4b
  rw [hR.1, nI_le' (by omega) (by omega)]
  refine ⟨fun q => ?_, fun q => bI_i ?_⟩
  · have e : k = T.length := by omega
    subst e
    exact h
  rw [nI_1]
  refine lpE2 (m_X1_meetingCount_L17b b (nI c) Q (nI k) (fun σ x2 => m_X1_meetingCount_J46 b (nI c) Q (fun σ x2 => m_X1_meetingCount_J52 b (nI c) Q σ x2) Rc σ x2 (nI k))) (fun _ => rfl) (fun m τ' x y => ∃ d, d ≤ T.length - (k + 1) ∧ y = nI (k + 1 + d) ∧ m = T.length - (k + 1) - d ∧ τ' = τ ∧ x = nI (mr T c k (mt T c k) d).1) ?_ (n := T.length - (k + 1)) ⟨0, by omega, rfl, rfl, rfl, rfl⟩
  rintro m2 υ x y Rc2 ⟨d, hd, rfl, hm2, rfl, rfl⟩ hR2
  unfold m_X1_meetingCount_L17b
  rw [hR.1, nI_le' (by omega) (by omega)]
  refine ⟨fun q2 => ?_, fun q2 => ?_⟩
  · have e : d = T.length - (k + 1) := by omega
    subst e
    unfold m_X1_meetingCount_J46
    rw [nI_1]
    exact hRc (T.length - (k + 1)) _ _ _ (by omega) ⟨k + 1, by omega, rfl, rfl, rfl, rfl⟩
  refine q_meet hR hV hl hc (by omega) (by omega) ?_
  rw [nI_1, nI_1]
  cases z : meet T c k (k + 1 + d)
  · refine ⟨fun _ => hR2 (T.length - (k + 1) - (d + 1)) _ _ _ (by omega) ⟨d + 1, by omega, rfl, rfl, rfl, by rw [mr, ms, z]; rfl⟩, fun w => absurd rfl w⟩
  · refine ⟨fun w => absurd w (by decide), fun _ => hR2 (T.length - (k + 1) - (d + 1)) _ _ _ (by omega) ⟨d + 1, by omega, rfl, rfl, rfl, by rw [mr, ms, z]; rfl⟩⟩
theorem q_leastMeeting {b : Nat} {T : Tr} {σ : St} {c : Nat} {Q : Int32 → St → Prop} (hR : RowOK b T σ) (hV : Val T) (hl : T.length ≤ 20) (hc : c < 4) (h : Q (mt T c T.length).2 σ) : m_X1_leastMeeting b σ (nI c) Q := by
  unfold m_X1_leastMeeting
  refine lpE1 (m_X1_leastMeeting_L2b b (nI c) Q (fun σ => m_X1_leastMeeting_J51 b (nI c) Q σ)) (fun _ => rfl) (fun m τ y => ∃ k, k ≤ T.length ∧ y = nI k ∧ m = T.length - k ∧ τ = σ ∧ (mt T c k).1 = 0 ∧ (mt T c k).2 = -9) ?_ (n := T.length) ⟨0, by omega, rfl, rfl, rfl, rfl, rfl⟩
  rintro m τ y Rc ⟨k, hk, rfl, hm, rfl, m1, m2⟩ hRc
  unfold m_X1_leastMeeting_L2b
  rw [hR.1, nI_le' (by omega) (by omega)]
  refine ⟨fun q => ?_, fun q => bI_i ?_⟩
  · have e : k = T.length := by omega
    subst e
    rw [m2] at h
    exact h
  rw [nI_1]
  refine lpE1 (m_X1_leastMeeting_L14b b (nI c) Q (nI k) (fun σ x3 => m_X1_leastMeeting_J32 b (nI c) Q (fun σ => m_X1_leastMeeting_J51 b (nI c) Q σ) Rc σ (nI k) x3) (fun σ => m_X1_leastMeeting_J45 b (nI c) Q (fun σ => m_X1_leastMeeting_J51 b (nI c) Q σ) Rc σ (nI k))) (fun _ => rfl) (fun m τ' y => ∃ d, d ≤ T.length - (k + 1) ∧ y = nI (k + 1 + d) ∧ m = T.length - (k + 1) - d ∧ τ' = τ ∧ (mr T c k (mt T c k) d).1 = 0 ∧ (mr T c k (mt T c k) d).2 = -9) ?_ (n := T.length - (k + 1)) ⟨0, by omega, rfl, rfl, rfl, m1, m2⟩
  rintro mm υ y Rc2 ⟨d, hd, rfl, hm2, rfl, n1, n2⟩ hR2
  unfold m_X1_leastMeeting_L14b
  rw [hR.1, nI_le' (by omega) (by omega)]
  refine ⟨fun q2 => ?_, fun q2 => ?_⟩
  · have e : d = T.length - (k + 1) := by omega
    subst e
    unfold m_X1_leastMeeting_J45
    rw [nI_1]
    exact hRc (T.length - (k + 1)) _ _ (by omega) ⟨k + 1, by omega, rfl, rfl, rfl, n1, n2⟩
  refine q_meet hR hV hl hc (by omega) (by omega) ?_
  rw [nI_1]
  cases z : meet T c k (k + 1 + d)
  · refine ⟨fun _ => hR2 (T.length - (k + 1) - (d + 1)) _ _ (by omega) ⟨d + 1, by omega, rfl, rfl, rfl, by rw [mr, ms, z]; exact n1, by rw [mr, ms, z]; exact n2⟩, fun w => absurd rfl w⟩
  · refine ⟨fun w => absurd w (by decide), fun _ => ?_⟩
    unfold m_X1_leastMeeting_J32
    have e1 : mr T c k (mt T c k) (d + 1) = (1, nI (100 * k + (k + 1 + d))) := by rw [mr, ms, z, n1]; rfl
    have s1 := mr_stay T c k (mt T c k) (d + 1) (by rw [e1]; exact Nat.succ_ne_zero 0) (T.length - (k + 1) - (d + 1))
    rw [show d + 1 + (T.length - (k + 1) - (d + 1)) = T.length - (k + 1) by omega, e1] at s1
    have s2 := mt_stay T c (k + 1) s1.1 (T.length - (k + 1))
    rw [show k + 1 + (T.length - (k + 1)) = T.length by omega] at s2
    have s3 : (mt T c (k + 1)).2 = nI (100 * k + (k + 1 + d)) := s1.2
    rw [s2.2, s3] at h
    show Q (100 * nI k + nI (k + 1 + d)) υ
    rw [show (100 : Int32) = nI 100 from rfl, pk_mul, nI_add]
    exact h
theorem k_meetings {σ : St} (h : Inv σ) (a b : Int32) : m_X8_meetings σ a b (fun r σ1 => m_X9_meetings σ1 a b (fun r2 σ2 => r = r2 ∧ Inv σ2)) := by
  obtain ⟨X, n, T, B, nx, hI⟩ := h
  have hI0 : Inv σ := ⟨X, n, T, B, nx, hI⟩
  obtain ⟨i1, i2, i3, i4, i5, i6, i7, i8, i9, i10, i11⟩ := id hI
  have hB := i5.bnd i6
  unfold m_X8_meetings
  rcases arg4 a with ⟨ka, hka, rfl⟩ | ha
  rotate_left
  · refine q_one4n ha ⟨fun z => absurd rfl z, fun _ => ?_⟩
    unfold m_X9_meetings
    exact p_isFour_n ha ⟨fun z => absurd rfl z, fun _ => ⟨rfl, hI0⟩⟩
  refine q_one4 hka ⟨fun _ => ?_, fun z => absurd z (by decide)⟩
  have M : ∀ (r : Int32) (kb : Nat), kb < 2 → (∀ τ : St, τ.1 61 19 = (mt T ka T.length).2 → Inv τ → (¬ nI kb = 0 → r = τ.1 61 19 ∧ Inv τ) ∧ (nI kb = 0 → r = nI (mt T ka T.length).1 ∧ Inv τ)) → m_X9_meetings σ (nI ka) (nI kb) (fun r2 σ2 => r = r2 ∧ Inv σ2) := by
    intro r kb hkb hr
    unfold m_X9_meetings
    refine p_isFour hka ⟨fun _ => ?_, fun z => absurd z (by decide)⟩
    refine p_in2 hkb ⟨fun _ => ?_, fun z => absurd z (by decide)⟩
    refine p_findHeld (L := 0) i4 hB (by omega) (fun τ hW hH hf => ?_)
    have hI1 := hI.keep (hf.keep Xh_keep)
    refine p_findBefore (L := 0) hI1.2.2.2.1 hB (by omega) (fun υ hb hfu => ?_)
    have hI2 := hI1.keep (hfu.keep X70_keep)
    refine p_meetingsOf hI2.2.2.2.1 hB (hH.fr hfu (fun _ => rfl) (fun _ => rfl)) hb hka (fun ω h19 hfw => ?_)
    exact hr ω h19 ⟨X, n, T, B, nx, hI2.keep (hfw.keep X19_keep)⟩
  refine ⟨fun q => ?_, fun q => ?_, fun q => ?_⟩
  · subst q
    refine q_meetingCount i3 i5 i6 hka ?_
    exact M _ 0 (by omega) (fun τ _ hIt => ⟨fun z => absurd rfl z, fun _ => ⟨rfl, hIt⟩⟩)
  · subst q
    refine q_leastMeeting i3 i5 i6 hka ?_
    exact M _ 1 (by omega) (fun τ h19 hIt => ⟨fun _ => ⟨h19.symm, hIt⟩, fun z => absurd z (by decide)⟩)
  · unfold m_X9_meetings
    refine p_isFour hka ⟨fun _ => ?_, fun z => absurd z (by decide)⟩
    rcases arg2 b with ⟨kb, hkb, rfl⟩ | ⟨hb1, hb2⟩
    · exfalso
      have : kb = 0 ∨ kb = 1 := by omega
      rcases this with rfl | rfl
      · exact q.1 rfl
      · exact q.2 rfl
    · exact p_in2n hb2 ⟨fun z => absurd rfl z, fun _ => ⟨rfl, hI0⟩⟩
/-! cells with such a pair -/
def mbt (T : Tr) : Nat → Int32
  | 0 => 0
  | c + 1 => mbt T c ||| (if (mt T c T.length).1 = 0 then 0 else bitI c)
theorem sm_mbt (T : Tr) : ∀ c, c ≤ 4 → sm (mbt T c)
  | 0, _ => sm_0
  | c + 1, h => by
    unfold mbt
    refine sm_or (sm_mbt T c (by omega)) ?_
    split
    · exact sm_0
    · exact sm_bit (by omega)
theorem q_meetingBits {b : Nat} {T : Tr} {σ : St} {Q : Int32 → St → Prop} (hR : RowOK b T σ) (hV : Val T) (hl : T.length ≤ 20) (h : Q (mbt T 4) σ) : m_X1_meetingBits b σ Q := by
  unfold m_X1_meetingBits
  refine lpE2 (m_X1_meetingBits_L4b b Q (fun σ x1 => m_X1_meetingBits_J31 b Q σ x1)) (fun _ => rfl) (fun m τ x y => ∃ c, c ≤ 4 ∧ y = nI c ∧ m = 4 - c ∧ τ = σ ∧ x = mbt T c) ?_ (n := 4) ⟨0, by omega, rfl, rfl, rfl, rfl⟩
  rintro m τ x y Rc ⟨c, hc, rfl, hm, rfl, rfl⟩ hRc
  unfold m_X1_meetingBits_L4b
  rw [show (4 : Int32) = nI 4 from rfl, nI_le' (by omega) (by omega)]
  refine ⟨fun q => ?_, fun q => ?_⟩
  · have e : c = 4 := by omega
    subst e
    exact h
  refine q_leastMeeting hR hV hl (by omega) ?_
  rw [nI_1]
  have mo := mt_ok (T := T) (c := c) hl T.length (Nat.le_refl _)
  have e2 : mbt T (c + 1) = mbt T c ||| (if (mt T c T.length).1 = 0 then 0 else bitI c) := rfl
  rcases mo with ⟨w1, w2⟩ | ⟨w1, v, w2, w3⟩
  · refine ⟨fun _ => hRc (4 - (c + 1)) _ _ _ (by omega) ⟨c + 1, by omega, rfl, rfl, rfl, ?_⟩, fun z => absurd w2 z⟩
    rw [e2, if_pos w1, or_0]
  · refine ⟨fun z => absurd (w3.symm.trans z) (ne9 v (by omega)), fun _ => bI_i (hRc (4 - (c + 1)) _ _ _ (by omega) ⟨c + 1, by omega, rfl, rfl, rfl, ?_⟩)⟩
    rw [e2, if_neg w1]
    rfl
def X1970 (c i : Nat) : Bool := c == 70 || (c == 61 && i == 19)
theorem X1970_keep : ∀ c i, PF c i = true → X1970 c i = false := by
  intro c i h
  simp only [PF, X1970, Bool.or_eq_true, Bool.and_eq_true, beq_iff_eq, decide_eq_true_eq, Bool.or_eq_false_iff, Bool.and_eq_false_iff, beq_eq_false_iff_ne] at h ⊢
  omega
theorem X19_1970 : ∀ c i, X1970 c i = false → X19 c i = false := by
  intro c i h
  simp only [X1970, X19, Bool.or_eq_false_iff] at h ⊢
  exact h.2
theorem X70_1970 : ∀ c i, X1970 c i = false → X70 c i = false := by
  intro c i h
  simp only [X1970, X70, Bool.or_eq_false_iff] at h ⊢
  exact h.1
theorem p_meetingCells {σ : St} {T : Tr} {Q : Int32 → St → Prop} (hN : NowOK 0 T σ) (hB : Bnd T) (hH : HeldM T σ) (h : ∀ τ, fr X1970 σ τ → Q (mbt T 4) τ) : m_X9_meetingCells σ Q := by
  unfold m_X9_meetingCells
  have hl := hB.1
  refine p_findBefore (L := 0) hN hB (by omega) (fun σ1 hb1 hf1 => ?_)
  refine lpE2 (m_X9_meetingCells_L9b Q (fun σ x1 => m_X9_meetingCells_J38 Q σ x1)) (fun _ => rfl) (fun m τ x y => ∃ c, c ≤ 4 ∧ y = nI c ∧ m = 4 - c ∧ fr X19 σ1 τ ∧ x = mbt T c) ?_ (n := 4) ⟨0, by omega, rfl, rfl, fr_rfl, rfl⟩
  rintro m τ x y Rc ⟨c, hc, rfl, hm, hf, rfl⟩ hRc
  unfold m_X9_meetingCells_L9b
  rw [show (4 : Int32) = nI 4 from rfl, nI_le' (by omega) (by omega)]
  have hf2 : fr X1970 σ τ := fr_tr (fr_mono hf1 X70_1970) (fr_mono hf X19_1970)
  refine ⟨fun q => ?_, fun q => ?_⟩
  · have e : c = 4 := by omega
    subst e
    exact h τ hf2
  refine p_meetingsOf (hN.fr hf2 (fun _ => rfl)) hB (hH.fr hf2 (fun _ => rfl) (fun _ => rfl)) (fun k hk => (hf.1 70 k rfl).trans (hb1 k hk)) (by omega) (fun υ h19 hfu => ?_)
  have e2 : mbt T (c + 1) = mbt T c ||| (if (mt T c T.length).1 = 0 then 0 else bitI c) := rfl
  have mtl := mt_le T c hl T.length
  rw [show (0 : Int32) = nI 0 from rfl, nI_le' (by omega) (by omega), nI_1]
  refine ⟨fun z => bI_i ?_, fun z => bI_i ?_⟩
  · refine hRc (4 - (c + 1)) _ _ _ (by omega) ⟨c + 1, by omega, rfl, rfl, fr_tr hf hfu, ?_⟩
    rw [e2, if_pos (by omega)]; rfl
  · refine hRc (4 - (c + 1)) _ _ _ (by omega) ⟨c + 1, by omega, rfl, rfl, fr_tr hf hfu, ?_⟩
    rw [e2, if_neg (by omega)]
    rfl
