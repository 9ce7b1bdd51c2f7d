/-! ===== count; locks taken while others are held ===== -/
theorem k_count {σ : St} (h : Inv σ) (a : Int32) : m_X8_count σ a (fun r σ1 => m_X9_count σ1 a (fun r2 σ2 => r = r2 ∧ Inv σ2)) := by
  obtain ⟨X, n, T, B, nx, hI⟩ := h
  obtain ⟨i1, i2, i3, i4, i5, i6, i7, i8, i9, i10, i11⟩ := id hI
  have hB := i5.bnd i6
  have M : ∀ P : St → Prop, (∀ τ : St, WM τ (wl T T.length) → HeldM T τ → InvP X n T B nx τ → fr Xh σ τ → P τ) → m_X9_findHeld σ 0 P := by
    intro P hP
    exact p_findHeld (L := 0) i4 hB (by omega) (fun τ hW hH hf => hP τ hW hH (hI.keep (hf.keep Xh_keep)) hf)
  have II : ∀ τ, InvP X n T B nx τ → Inv τ := fun τ q => ⟨X, n, T, B, nx, q⟩
  unfold m_X8_count
  refine ⟨fun q => ?_, fun q => ?_, fun q => ?_, fun q => ?_, fun q => ?_, fun q => ?_, fun q => ?_, fun q => ?_, fun q => ?_, fun q => ?_⟩
  · subst q
    refine M _ (fun τ hW hH hIt hf => ⟨fun _ => ⟨?_, II τ hIt⟩, ?_, ?_, ?_, ?_, ?_, ?_, ?_, ?_, fun z => absurd rfl z.1⟩)
    · rw [i1.2.1, hIt.2.1.2.1]
    all_goals exact fun z => absurd z (by decide)
  · subst q
    refine M _ (fun τ hW hH hIt hf => ⟨?_, fun _ => p_many (L := 0) hIt.2.2.2.1 (by omega) ⟨i3.1, II τ hIt⟩, ?_, ?_, ?_, ?_, ?_, ?_, ?_, fun z => absurd rfl z.2.1⟩)
    all_goals exact fun z => absurd z (by decide)
  · subst q
    refine M _ (fun τ hW hH hIt hf => ⟨?_, ?_, fun _ => ⟨i3.2.2.1.2.2.1.trans hW.2.2.1.symm, II τ hIt⟩, ?_, ?_, ?_, ?_, ?_, ?_, fun z => absurd rfl z.2.2.1⟩)
    all_goals exact fun z => absurd z (by decide)
  · subst q
    refine M _ (fun τ hW hH hIt hf => ⟨?_, ?_, ?_, fun _ => ⟨i3.2.2.1.2.2.2.trans hW.2.2.2.symm, II τ hIt⟩, ?_, ?_, ?_, ?_, ?_, fun z => absurd rfl z.2.2.2.1⟩)
    all_goals exact fun z => absurd z (by decide)
  · subst q
    refine q_allToWrite i3.2.2.1 (q_allToRead i3.2.2.1 ?_)
    refine M _ (fun τ hW hH hIt hf => ⟨?_, ?_, ?_, ?_, fun _ => p_writeHeld hW (p_readHeld hW ⟨rfl, II τ hIt⟩), ?_, ?_, ?_, ?_, fun z => absurd rfl z.2.2.2.2.1⟩)
    all_goals exact fun z => absurd z (by decide)
  · subst q
    refine q_flaggedBits i3 i5 i6 ?_
    refine M _ (fun τ hW hH hIt hf => ⟨?_, ?_, ?_, ?_, ?_, fun _ => p_flaggedOn (L := 0) hIt.2.2.2.1 hB hH (by omega) (fun υ hfu => ⟨rfl, II υ (hIt.keep (hfu.keep XW_keep))⟩), ?_, ?_, ?_, fun z => absurd rfl z.2.2.2.2.2.1⟩)
    all_goals exact fun z => absurd z (by decide)
  · subst q
    refine q_meetingBits i3 i5 i6 ?_
    refine M _ (fun τ hW hH hIt hf => ⟨?_, ?_, ?_, ?_, ?_, ?_, fun _ => p_meetingCells hIt.2.2.2.1 hB hH (fun υ hfu => ⟨rfl, II υ (hIt.keep (hfu.keep X1970_keep))⟩), ?_, ?_, fun z => absurd rfl z.2.2.2.2.2.2.1⟩)
    all_goals exact fun z => absurd z (by decide)
  · subst q
    refine M _ (fun τ hW hH hIt hf => ⟨?_, ?_, ?_, ?_, ?_, ?_, ?_, fun _ => ⟨i8.1.trans hIt.2.2.2.2.2.2.1.2.2.1.symm, II τ hIt⟩, ?_, fun z => absurd rfl z.2.2.2.2.2.2.2.1⟩)
    all_goals exact fun z => absurd z (by decide)
  · subst q
    refine M _ (fun τ hW hH hIt hf => ⟨?_, ?_, ?_, ?_, ?_, ?_, ?_, ?_, fun _ => ⟨?_, II τ hIt⟩, fun z => absurd rfl z.2.2.2.2.2.2.2.2⟩)
    all_goals try exact fun z => absurd z (by decide)
    obtain ⟨z, hz, s1, s2, _⟩ := i10
    rw [s1, hf.1 61 32 rfl, s2]
  · exact M _ (fun τ hW hH hIt hf => ⟨fun z => absurd z q.1, fun z => absurd z q.2.1, fun z => absurd z q.2.2.1, fun z => absurd z q.2.2.2.1, fun z => absurd z q.2.2.2.2.1, fun z => absurd z q.2.2.2.2.2.1, fun z => absurd z q.2.2.2.2.2.2.1, fun z => absurd z q.2.2.2.2.2.2.2.1, fun z => absurd z q.2.2.2.2.2.2.2.2, fun _ => ⟨rfl, II τ hIt⟩⟩)
/-! edges: the step, the lock that is held, the lock that is taken -/
def edg (T : Tr) (k o : Nat) : Bool := decide (sg T k < 2) && bt (hw T k ||| hr T k) o
def er (T : Tr) (k : Nat) (l : List Tp) : Nat → List Tp
  | 0 => l
  | o + 1 => if edg T k o then er T k l o ++ [(k, o, ab T k)] else er T k l o
def el (T : Tr) : Nat → List Tp
  | 0 => []
  | k + 1 => er T k (el T k) 4
abbrev EL (T : Tr) : List Tp := el T T.length
theorem er_len (T : Tr) (k : Nat) (l : List Tp) : ∀ o, (er T k l o).length ≤ l.length + o
  | 0 => Nat.le_refl _
  | o + 1 => by
    have := er_len T k l o
    rw [er]; split
    · rw [List.length_append, List.length_singleton]; omega
    · omega
theorem el_len (T : Tr) : ∀ k, (el T k).length ≤ 4 * k
  | 0 => Nat.le_refl _
  | k + 1 => by have := el_len T k; have := er_len T k (el T k) 4; rw [el]; omega
theorem er_not (T : Tr) (k : Nat) (l : List Tp) (h : ¬ sg T k < 2) : ∀ o, er T k l o = l
  | 0 => rfl
  | o + 1 => by rw [er, er_not T k l h o]; simp [edg, h]
def edOK (T : Tr) (n : Nat) (x : Tp) : Prop := x.1 < n ∧ x.2.1 < 4 ∧ edg T x.1 x.2.1 = true ∧ x.2.2 = ab T x.1
theorem er_ok (T : Tr) (k : Nat) (l : List Tp) (h : ∀ x, x ∈ l → edOK T k x) : ∀ o, o ≤ 4 → ∀ x, x ∈ er T k l o → edOK T (k + 1) x
  | 0, _, x, hx => by obtain ⟨a, b⟩ := h x hx; exact ⟨by omega, b⟩
  | o + 1, ho, x, hx => by
    rw [er] at hx
    split at hx
    · rename_i q
      rw [List.mem_append, List.mem_singleton] at hx
      rcases hx with hx | rfl
      · exact er_ok T k l h o (by omega) x hx
      · exact ⟨Nat.lt_succ_self k, by dsimp only; omega, q, rfl⟩
    · exact er_ok T k l h o (by omega) x hx
theorem el_ok (T : Tr) : ∀ k x, x ∈ el T k → edOK T k x
  | 0, x, hx => by cases hx
  | k + 1, x, hx => er_ok T k (el T k) (el_ok T k) 4 (by omega) x hx
def Eat (E : List Tp) (j : Nat) : Tp := E.getD j (0, 0, 0)
theorem Eat_mem (E : List Tp) {j : Nat} (h : j < E.length) : Eat E j ∈ E := by
  unfold Eat
  rw [List.getD_eq_getElem?_getD, List.getElem?_eq_getElem h]
  exact List.getElem_mem h
theorem Eat_ok (T : Tr) {j : Nat} (h : j < (EL T).length) : edOK T T.length (Eat (EL T) j) := el_ok T T.length _ (Eat_mem _ h)
/-- the edges in a store -/
def EdS (s i a b c : Nat) (E : List Tp) (σ : St) : Prop := σ.1 s i = nI E.length ∧ ∀ j, j < E.length → σ.1 a j = nI (Eat E j).1 ∧ σ.1 b j = nI (Eat E j).2.1 ∧ σ.1 c j = nI (Eat E j).2.2
theorem Eat_app (E : List Tp) (x : Tp) (j : Nat) : Eat (E ++ [x]) j = if j < E.length then Eat E j else if j = E.length then x else (0, 0, 0) := by
  unfold Eat
  rw [List.getD_eq_getElem?_getD, List.getD_eq_getElem?_getD]
  by_cases h : j < E.length
  · rw [List.getElem?_append_left h, if_pos h]
  · rw [List.getElem?_append_right (by omega), if_neg h]
    by_cases h2 : j = E.length
    · subst h2; simp
    · rw [if_neg h2, List.getElem?_eq_none (by simp; omega)]; rfl
theorem EdS.push {s i a b c : Nat} {E : List Tp} {σ : St} (h : EdS s i a b c E σ) (x : Tp) (h1 : a ≠ b) (h2 : a ≠ c) (h3 : b ≠ c) (h4 : s ≠ a) (h5 : s ≠ b) (h6 : s ≠ c) : EdS s i a b c (E ++ [x]) (sI (sI (sI (sI σ a E.length (nI x.1)) b E.length (nI x.2.1)) c E.length (nI x.2.2)) s i (nI (E.length + 1))) := by
  refine ⟨?_, fun j hj => ?_⟩
  · rw [sI_in, List.length_append, List.length_singleton]
  · rw [List.length_append, List.length_singleton] at hj
    rw [Eat_app]
    by_cases q : j < E.length
    · rw [if_pos q]
      have w := h.2 j q
      refine ⟨?_, ?_, ?_⟩
      · rw [sI_out _ _ (by omega), sI_out _ _ (by omega), sI_out _ _ (by omega), sI_out _ _ (by omega)]; exact w.1
      · rw [sI_out _ _ (by omega), sI_out _ _ (by omega), sI_out _ _ (by omega), sI_out _ _ (by omega)]; exact w.2.1
      · rw [sI_out _ _ (by omega), sI_out _ _ (by omega), sI_out _ _ (by omega), sI_out _ _ (by omega)]; exact w.2.2
    · have e : j = E.length := by omega
      rw [if_neg q, if_pos e]
      subst e
      refine ⟨?_, ?_, ?_⟩
      · rw [sI_out _ _ (by omega), sI_out _ _ (by omega), sI_out _ _ (by omega), sI_in]
      · rw [sI_out _ _ (by omega), sI_out _ _ (by omega), sI_in]
      · rw [sI_out _ _ (by omega), sI_in]
theorem EdS.fr {s i a b c : Nat} {E : List Tp} {σ τ : St} {X : Nat → Nat → Bool} (h : EdS s i a b c E σ) (hf : fr X σ τ) (h1 : X s i = false) (h2 : ∀ j, X a j = false) (h3 : ∀ j, X b j = false) (h4 : ∀ j, X c j = false) : EdS s i a b c E τ := ⟨(hf.1 _ _ h1).trans h.1, fun j hj => ⟨(hf.1 _ _ (h2 j)).trans (h.2 j hj).1, (hf.1 _ _ (h3 j)).trans (h.2 j hj).2.1, (hf.1 _ _ (h4 j)).trans (h.2 j hj).2.2⟩⟩
abbrev EdM (E : List Tp) (σ : St) : Prop := EdS 61 20 71 72 73 E σ
abbrev EdC (E : List Tp) (σ : St) : Prop := EdS 52 0 53 54 55 E σ
def XeM (c i : Nat) : Bool := c == 71 || c == 72 || c == 73 || (c == 61 && i == 20)
def XeC (c i : Nat) : Bool := c == 53 || c == 54 || c == 55 || (c == 52 && i == 0)
theorem XeM_keep : ∀ c i, PF c i = true → XeM c i = false := by
  intro c i h
  simp only [PF, XeM, Bool.or_eq_true, Bool.and_eq_true, beq_iff_eq, decide_eq_true_eq, Bool.or_eq_false_iff, Bool.and_eq_false_iff, beq_eq_false_iff_ne] at h ⊢
  omega
theorem XeC_keep : ∀ c i, PF c i = true → XeC c i = false := by
  intro c i h
  simp only [PF, XeC, Bool.or_eq_true, Bool.and_eq_true, beq_iff_eq, decide_eq_true_eq, Bool.or_eq_false_iff, Bool.and_eq_false_iff, beq_eq_false_iff_ne] at h ⊢
  omega
theorem p_findEdges {σ : St} {L : Nat} {T : Tr} {Q : St → Prop} (hN : NowOK L T σ) (hB : Bnd T) (hH : HeldM T σ) (hL : L < 2) (h : ∀ τ, EdM (EL T) τ → fr XeM σ τ → Q τ) : m_X9_findEdges σ (nI L) Q := by
  unfold m_X9_findEdges sIB
  have hl := hB.1
  refine lpE1 (m_X9_findEdges_L7b (nI L) Q (fun σ => m_X9_findEdges_J110 (nI L) Q σ)) (fun _ => rfl) (fun m τ x => ∃ k, k ≤ T.length ∧ x = nI k ∧ m = T.length - k ∧ fr XeM σ τ ∧ EdM (el T k) τ) ?_ (n := T.length) ⟨0, by omega, rfl, rfl, fr_sI fr_rfl _ rfl, ⟨sI_in _ _ _ _, fun j q => by cases q⟩⟩
  rintro m τ x Rc ⟨k, hk, rfl, hm, hf, hE⟩ hR
  unfold m_X9_findEdges_L7b
  refine p_many (hN.fr hf (fun _ => rfl)) hL ?_
  rw [nI_le' (by omega) (by omega)]
  refine ⟨fun q => ?_, fun q => ?_⟩
  · have e : k = T.length := by omega
    subst e
    exact h τ hE hf
  have hkl : k < T.length := by omega
  obtain ⟨b1, b2, b3⟩ := hB.2 k hkl
  have ell := el_len T k
  refine lpE1 (m_X9_findEdges_L18b (nI L) Q (nI k) (fun σ => m_X9_findEdges_J104 (nI L) Q (fun σ => m_X9_findEdges_J110 (nI L) Q σ) Rc σ (nI k))) (fun _ => rfl) (fun m τ x => ∃ o, o ≤ 4 ∧ x = nI o ∧ m = 4 - o ∧ fr XeM σ τ ∧ EdM (er T k (el T k) o) τ) ?_ (n := 4) ⟨0, by omega, rfl, rfl, hf, hE⟩
  rintro m2 υ x Rc2 ⟨o, ho, rfl, hm2, hf2, hE2⟩ hR2
  unfold m_X9_findEdges_L18b
  have hN2 := hN.fr hf2 (fun _ => rfl)
  have hH2 := hH.fr hf2 (fun _ => rfl) (fun _ => rfl)
  have erl := er_len T k (el T k) o
  rw [show (4 : Int32) = nI 4 from rfl, nI_le' (by omega) (by omega)]
  have out : er T k (el T k) o = el T (k + 1) → m_X9_findEdges_J104 (nI L) Q (fun σ => m_X9_findEdges_J110 (nI L) Q σ) Rc υ (nI k) := by
    intro e
    unfold m_X9_findEdges_J104
    rw [nI_1]
    rw [e] at hE2
    exact hR (T.length - (k + 1)) _ _ (by omega) ⟨k + 1, by omega, rfl, rfl, hf2, hE2⟩
  refine ⟨fun q2 => ?_, fun q2 => ?_⟩
  · have e : o = 4 := by omega
    subst e
    exact out rfl
  refine p_signAt hN2 hB hL hkl ?_
  rw [show (2 : Int32) = nI 2 from rfl, nI_le' (by omega) (by omega)]
  refine ⟨fun q3 => out ?_, fun q3 => ⟨vp_n (by omega) (by omega), vp_n (by omega) (by omega), ?_⟩⟩
  · rw [el, er_not T k _ (by omega), er_not T k _ (by omega)]
  rw [nI_cl (by omega), (hH2 k hkl).1, (hH2 k hkl).2]
  refine p_has (by omega) ?_
  rw [nI_1]
  have eo : edg T k o = bt (hw T k ||| hr T k) o := by rw [edg, decide_eq_true (by omega), Bool.true_and]
  cases hb : bt (hw T k ||| hr T k) o
  · refine ⟨fun _ => hR2 (4 - (o + 1)) _ _ (by omega) ⟨o + 1, by omega, rfl, rfl, hf2, ?_⟩, fun z => absurd rfl z⟩
    rw [er, eo, hb]
    exact hE2
  · refine ⟨fun z => absurd z (by decide), fun _ => ?_⟩
    rw [hE2.1]
    refine ⟨vp_n (by omega) (by omega), ?_⟩
    unfold sIB
    rw [nI_cl (by omega)]
    dsimp only
    rw [sI_out (a := 61) (j := 20) (c := 71) _ _ (by omega), hE2.1]
    refine ⟨vp_n (by omega) (by omega), ?_⟩
    rw [nI_cl (by omega)]
    have hf3 : fr XeM σ (sI (sI υ 71 (er T k (el T k) o).length (nI k)) 72 (er T k (el T k) o).length (nI o)) := fr_sI (fr_sI hf2 _ rfl) _ rfl
    refine p_aboutAt (hN.fr hf3 (fun _ => rfl)) hB hL hkl ?_
    rw [sI_out (a := 61) (j := 20) (c := 72) _ _ (by omega), sI_out (a := 61) (j := 20) (c := 71) _ _ (by omega), hE2.1]
    refine ⟨vp_n (by omega) (by omega), ?_⟩
    rw [nI_cl (by omega), sI_out (a := 61) (j := 20) (c := 73) _ _ (by omega), sI_out (a := 61) (j := 20) (c := 72) _ _ (by omega), sI_out (a := 61) (j := 20) (c := 71) _ _ (by omega), hE2.1, nI_1]
    refine hR2 (4 - (o + 1)) _ _ (by omega) ⟨o + 1, by omega, rfl, rfl, fr_sI (fr_sI hf3 _ rfl) _ rfl, ?_⟩
    rw [er, eo, hb]
    exact hE2.push (k, o, ab T k) (by omega) (by omega) (by omega) (by omega) (by omega) (by omega)
theorem q_collect {b : Nat} {T : Tr} {σ : St} {Q : St → Prop} (hb : b + 9 < 52) (hR : RowOK b T σ) (hV : Val T) (hl : T.length ≤ 20) (h : ∀ τ, EdC (EL T) τ → fr XeC σ τ → Q τ) : m_X3_collect b σ Q := by
  unfold m_X3_collect sIB
  have XR : ∀ c i, b ≤ c → c ≤ b + 9 → XeC c i = false := by
    intro c i h1 h2
    simp only [XeC, Bool.or_eq_false_iff, Bool.and_eq_false_iff, beq_eq_false_iff_ne]
    omega
  refine lpE1 (m_X3_collect_L7b b Q (fun σ => m_X3_collect_J108 b Q σ)) (fun _ => rfl) (fun m τ x => ∃ k, k ≤ T.length ∧ x = nI k ∧ m = T.length - k ∧ fr XeC σ τ ∧ EdC (el T k) τ) ?_ (n := T.length) ⟨0, by omega, rfl, rfl, fr_sI fr_rfl _ rfl, ⟨sI_in _ _ _ _, fun j q => by cases q⟩⟩
  rintro m τ x Rc ⟨k, hk, rfl, hm, hf, hE⟩ hRc
  unfold m_X3_collect_L7b
  rw [(hR.fr hf XR).1, nI_le' (by omega) (by omega)]
  refine ⟨fun q => ?_, fun q => ?_⟩
  · have e : k = T.length := by omega
    subst e
    exact h τ hE hf
  have hkl : k < T.length := by omega
  obtain ⟨b1, b2, b3, _⟩ := hV k hkl
  have ell := el_len T k
  refine lpE1 (m_X3_collect_L17b b Q (nI k) (fun σ => m_X3_collect_J102 b Q (fun σ => m_X3_collect_J108 b Q σ) Rc σ (nI k))) (fun _ => rfl) (fun m τ x => ∃ o, o ≤ 4 ∧ x = nI o ∧ m = 4 - o ∧ fr XeC σ τ ∧ EdC (er T k (el T k) o) τ) ?_ (n := 4) ⟨0, by omega, rfl, rfl, hf, hE⟩
  rintro m2 υ x Rc2 ⟨o, ho, rfl, hm2, hf2, hE2⟩ hR2
  unfold m_X3_collect_L17b
  have hRu := hR.fr hf2 XR
  have erl := er_len T k (el T k) o
  rw [show (4 : Int32) = nI 4 from rfl, nI_le' (by omega) (by omega)]
  refine ⟨fun q2 => ?_, fun q2 => ?_⟩
  · have e : o = 4 := by omega
    subst e
    unfold m_X3_collect_J102
    rw [nI_1]
    exact hRc (T.length - (k + 1)) _ _ (by omega) ⟨k + 1, by omega, rfl, rfl, hf2, hE2⟩
  have no : edg T k o = false → Rc2 υ (nI o + 1) := by
    intro z
    rw [nI_1]
    refine hR2 (4 - (o + 1)) _ _ (by omega) ⟨o + 1, by omega, rfl, rfl, hf2, ?_⟩
    rw [er, z]
    exact hE2
  refine r_takesAt hRu hV hl hkl ?_
  cases hd : decide (sg T k < 2)
  · exact ⟨fun _ => no (by rw [edg, hd]; rfl), fun z => absurd rfl z⟩
  refine ⟨fun z => absurd z (by decide), fun _ => ?_⟩
  refine r_heldAt hRu hl hkl ?_
  rw [hb_val _ (by omega)]
  have eo : edg T k o = bt (hw T k ||| hr T k) o := by rw [edg, hd, Bool.true_and]
  cases hb2 : bt (hw T k ||| hr T k) o
  · exact ⟨fun _ => no (by rw [eo, hb2]), fun z => absurd z (by decide)⟩
  refine ⟨fun z => absurd rfl z, fun _ => ?_⟩
  rw [hE2.1, show (80 : Int32) = nI 80 from rfl, nI_le' (by omega) (by omega)]
  refine ⟨fun z => by omega, fun _ => ⟨vp_n (by omega) (by omega), ?_⟩⟩
  unfold sIB
  rw [nI_cl (by omega)]
  dsimp only
  rw [sI_out (a := 52) (j := 0) (c := 53) _ _ (by omega), hE2.1]
  refine ⟨vp_n (by omega) (by omega), ?_⟩
  rw [nI_cl (by omega)]
  have hf3 : fr XeC σ (sI (sI υ 53 (er T k (el T k) o).length (nI k)) 54 (er T k (el T k) o).length (nI o)) := fr_sI (fr_sI hf2 _ rfl) _ rfl
  refine r_aboutAt (hR.fr hf3 XR) hV hl hkl ?_
  rw [sI_out (a := 52) (j := 0) (c := 54) _ _ (by omega), sI_out (a := 52) (j := 0) (c := 53) _ _ (by omega), hE2.1]
  refine ⟨vp_n (by omega) (by omega), ?_⟩
  rw [nI_cl (by omega), sI_out (a := 52) (j := 0) (c := 55) _ _ (by omega), sI_out (a := 52) (j := 0) (c := 54) _ _ (by omega), sI_out (a := 52) (j := 0) (c := 53) _ _ (by omega), hE2.1, nI_1, nI_1]
  refine hR2 (4 - (o + 1)) _ _ (by omega) ⟨o + 1, by omega, rfl, rfl, fr_sI (fr_sI hf3 _ rfl) _ rfl, ?_⟩
  rw [er, eo, hb2]
  exact hE2.push (k, o, ab T k) (by omega) (by omega) (by omega) (by omega) (by omega) (by omega)
def ecnt (E : List Tp) (f t : Nat) : Nat → Nat
  | 0 => 0
  | j + 1 => ecnt E f t j + (if (Eat E j).2.1 = f ∧ (Eat E j).2.2 = t then 1 else 0)
theorem ecnt_le (E : List Tp) (f t : Nat) : ∀ j, ecnt E f t j ≤ j
  | 0 => Nat.le_refl _
  | j + 1 => by have := ecnt_le E f t j; rw [ecnt]; split <;> omega
theorem q_between {T : Tr} {σ : St} {f t : Nat} {Q : Int32 → St → Prop} (hB : Bnd T) (hE : EdC (EL T) σ) (hf : f < 4) (ht : t < 4) (h : Q (nI (ecnt (EL T) f t (EL T).length)) σ) : m_X3_between σ (nI f) (nI t) Q := by
  unfold m_X3_between
  have hl := hB.1
  have ell : (EL T).length ≤ 4 * T.length := el_len T T.length
  refine lpE2 (m_X3_between_L5b (nI f) (nI t) Q (fun σ x3 => m_X3_between_J45 (nI f) (nI t) Q σ x3)) (fun _ => rfl) (fun m τ x y => ∃ j, j ≤ (EL T).length ∧ y = nI j ∧ m = (EL T).length - j ∧ τ = σ ∧ x = nI (ecnt (EL T) f t j)) ?_ (n := (EL T).length) ⟨0, by omega, rfl, rfl, rfl, rfl⟩
  rintro m τ x y Rc ⟨j, hj, rfl, hm, rfl, rfl⟩ hRc
  unfold m_X3_between_L5b
  rw [hE.1, nI_le' (by omega) (by omega)]
  refine ⟨fun q => ?_, fun q => ⟨vp_n (by omega) (by omega), ?_⟩⟩
  · have e : j = (EL T).length := by omega
    subst e
    exact h
  have hjl : j < (EL T).length := by omega
  obtain ⟨w1, w2, w3, w4⟩ := Eat_ok T hjl
  have w5 := (hB.2 _ w1).2.2
  rw [nI_cl (by omega), (hE.2 j hjl).2.1, (hE.2 j hjl).2.2, nI_eq' (by omega) (by omega), nI_1, nI_1, nI_eq' (by omega) (by omega)]
  refine ⟨fun z => hRc ((EL T).length - (j + 1)) _ _ _ (by omega) ⟨j + 1, by omega, rfl, rfl, rfl, ?_⟩, fun z => ⟨vp_n (by omega) (by omega), fun z2 => hRc ((EL T).length - (j + 1)) _ _ _ (by omega) ⟨j + 1, by omega, rfl, rfl, rfl, ?_⟩, fun z2 => hRc ((EL T).length - (j + 1)) _ _ _ (by omega) ⟨j + 1, by omega, rfl, rfl, rfl, ?_⟩⟩⟩
  · rw [ecnt, if_neg (fun q => z q.1)]; rfl
  · rw [ecnt, if_neg (fun q => z2 q.2)]; rfl
  · rw [ecnt, if_pos ⟨z, z2⟩]
theorem k_edges {σ : St} (h : Inv σ) (a : Int32) : m_X8_edges σ a (fun r σ1 => m_X9_edges σ1 a (fun r2 σ2 => r = r2 ∧ Inv σ2)) := by
  obtain ⟨X, n, T, B, nx, hI⟩ := h
  have hI0 : Inv σ := ⟨X, n, T, B, nx, hI⟩
  obtain ⟨i1, i2, i3, i4, i5, i6, i7, i8, i9, i10, i11⟩ := id hI
  have hB := i5.bnd i6
  have ell : (EL T).length ≤ 4 * T.length := el_len T T.length
  have e16 : (16 : Int64) = (nI 16).toInt64 := by decide
  unfold m_X8_edges
  have no : ∀ r : Int32, ¬ ((0 : Int64) ≤ a.toInt64 ∧ a.toInt64 ≤ (nI 16).toInt64) → r = -2 → m_X9_edges σ a (fun r2 σ2 => r = r2 ∧ Inv σ2) := by
    rintro r hno rfl
    unfold m_X9_edges
    rw [e16]
    exact p_in (fun h1 h2 => absurd ⟨h1, h2⟩ hno) (fun _ => ⟨fun z => absurd rfl z, fun _ => ⟨rfl, hI0⟩⟩)
  rcases arg_le a (n := 16) (by omega) with ⟨k, hk, rfl⟩ | ⟨hb1, hb2⟩
  rotate_left
  · refine ⟨fun _ => no _ hb2 rfl, fun q => ⟨fun q2 => ?_, fun _ => no _ hb2 rfl⟩⟩
    rcases hb1 with w | w
    · exact absurd w q
    · exact absurd q2 w
  refine ⟨fun q => absurd q (nI_pos (by omega)), fun _ => ⟨fun _ => ?_, fun q => absurd (nI_le hk (by omega)) q⟩⟩
  refine q_collect (by omega) i3 i5 i6 (fun σ1 hE hf => ?_)
  have hI1 := hI.keep (hf.keep XeC_keep)
  have M : ∀ r : Int32, r = (if k = 0 then nI (EL T).length else nI (ecnt (EL T) ((k - 1) / 4) ((k - 1) % 4) (EL T).length)) → m_X9_edges σ1 (nI k) (fun r2 σ2 => r = r2 ∧ Inv σ2) := by
    intro r hr
    unfold m_X9_edges
    rw [e16]
    refine p_in (fun _ _ => ⟨fun _ => ?_, fun z => absurd z (by decide)⟩) (fun z => absurd ⟨?_, ?_⟩ z)
    · refine p_findHeld (L := 0) hI1.2.2.2.1 hB (by omega) (fun τ hW hH hf2 => ?_)
      have hI2 := hI1.keep (hf2.keep Xh_keep)
      refine p_findEdges (L := 0) hI2.2.2.2.1 hB hH (by omega) (fun υ hEu hfu => ?_)
      have hI3 := hI2.keep (hfu.keep XeM_keep)
      refine lpE2 (m_X9_edges_L29b (nI k) (fun r2 σ2 => r = r2 ∧ Inv σ2) (fun σ x2 => m_X9_edges_J76 (nI k) (fun r2 σ2 => r = r2 ∧ Inv σ2) σ x2)) (fun _ => rfl) (fun m τ x y => ∃ j, j ≤ (EL T).length ∧ y = nI j ∧ m = (EL T).length - j ∧ τ = υ ∧ x = (if k = 0 then nI j else nI (ecnt (EL T) ((k - 1) / 4) ((k - 1) % 4) j))) ?_ (n := (EL T).length) ⟨0, by omega, rfl, rfl, rfl, by split <;> rfl⟩
      rintro m τ x y Rc ⟨j, hj, rfl, hm, rfl, rfl⟩ hRc
      unfold m_X9_edges_L29b
      rw [hEu.1, nI_le' (by omega) (by omega)]
      refine ⟨fun q => ?_, fun q => ?_⟩
      · have e : j = (EL T).length := by omega
        subst e
        exact ⟨hr, X, n, T, B, nx, hI3⟩
      have hjl : j < (EL T).length := by omega
      obtain ⟨w1, w2, w3, w4⟩ := Eat_ok T hjl
      have w5 := (hB.2 _ w1).2.2
      rw [show (0 : Int32) = nI 0 from rfl, nI_eq' (by omega) (by omega), nI_1]
      refine ⟨fun z => bI_i ?_, fun z => ⟨vp_n (by omega) (by omega), vp_n (by omega) (by omega), ?_⟩⟩
      · rw [if_pos z, nI_1]
        exact hRc ((EL T).length - (j + 1)) _ _ _ (by omega) ⟨j + 1, by omega, rfl, rfl, rfl, by rw [if_pos z]⟩
      · rw [nI_cl (by omega), (hEu.2 j hjl).2.1, (hEu.2 j hjl).2.2, if_neg z, show (4 : Int32) = nI 4 from rfl, show (1 : Int32) = nI 1 from rfl, pk_mul, nI_add, nI_add, nI_eq' (by omega) (by omega)]
        refine ⟨fun z2 => bI_i ?_, fun z2 => bI_i ?_⟩
        · refine hRc ((EL T).length - (j + 1)) _ _ _ (by omega) ⟨j + 1, by omega, rfl, rfl, rfl, ?_⟩
          rw [if_neg z, ecnt, if_neg (by omega), nI_add]
        · refine hRc ((EL T).length - (j + 1)) _ _ _ (by omega) ⟨j + 1, by omega, rfl, rfl, rfl, ?_⟩
          rw [if_neg z, ecnt, if_pos (by omega), nI_add]
    · rw [show (0 : Int64) = (0 : Int32).toInt64 by decide, i64_le]; exact nI_pos' (by omega)
    · rw [i64_le]; exact nI_le hk (by omega)
  rw [show (0 : Int32) = nI 0 from rfl, nI_eq' (by omega) (by omega)]
  refine ⟨fun z => ?_, fun z => ?_⟩
  · have e1 : nI k - 1 = nI (k - 1) := by rw [show (1 : Int32) = nI 1 from rfl, pk_sub (by omega)]
    rw [e1, show (4 : Int32) = nI 4 from rfl, pk_rem (by omega) (by omega) (by omega), pk_div (by omega) (by omega) (by omega)]
    refine q_between hB hE (by omega) (by omega) ?_
    exact M _ (by rw [if_neg z])
  · exact M _ (by rw [if_pos z]; exact hE.1)
