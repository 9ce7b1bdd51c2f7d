/-! ===== LockWatch.Text ===== -/
theorem nx_or (a b : Nat) : nI a ||| nI b = nI (a ||| b) := by
  apply Int32.toBitVec_inj.1
  show BitVec.ofNat 32 a ||| BitVec.ofNat 32 b = BitVec.ofNat 32 (a ||| b)
  apply BitVec.eq_of_getLsbD_eq
  intro i hi
  simp [hi]
theorem or_sum {a k : Nat} (b : Nat) (h : a < 2 ^ k) : nI (2 ^ k * b) ||| nI a = nI (2 ^ k * b + a) := by
  rw [nx_or, Nat.two_pow_add_eq_or_of_lt h]
theorem q_pack {σ : St} {t c o : Nat} {Q : Int32 → St → Prop} (ht : t < 4) (hc : c < 256) (ho : o < 4) (h : Q (nI (16 * c + 4 * t + o)) σ) : m_X4_pack σ (nI t) (nI c) (nI o) Q := by
  unfold m_X4_pack
  have e : ((nI c <<< ((4 : Int32) &&& 31)) ||| ((nI t &&& 3) <<< ((2 : Int32) &&& 31))) ||| (nI o &&& 3) = nI (16 * c + 4 * t + o) := by
    rw [pk_andN (by omega) 2 (by decide), pk_andN (by omega) 2 (by decide), pk_shlN _ 4 sh4 (by omega), pk_shlN _ 2 sh2 (by omega)]
    rw [show t % 2 ^ 2 = t by omega, show o % 2 ^ 2 = o by omega, show c * 2 ^ 4 = 2 ^ 4 * c by omega, show t * 2 ^ 2 = 4 * t by omega, or_sum c (by omega)]
    rw [show 2 ^ 4 * c + 4 * t = 2 ^ 2 * (4 * c + t) by omega, or_sum _ (by omega)]
    try (congr 1; omega)
  rw [e]
  exact h
theorem q_one4 {σ : St} {k : Nat} {Q : Int32 → St → Prop} (hk : k < 4) (h : Q 1 σ) : m_X8_isOneOfFour σ (nI k) Q := by
  unfold m_X8_isOneOfFour
  refine ⟨fun q => absurd q (nI_pos (by omega)), fun _ => ⟨fun q => ?_, fun _ => h⟩⟩
  rw [show (4 : Int32) = nI 4 from rfl, nI_le' (by omega) (by omega)] at q; omega
theorem q_one4n {σ : St} {x : Int32} {Q : Int32 → St → Prop} (hx : ¬ (0 ≤ x ∧ x ≤ 3)) (h : Q 0 σ) : m_X8_isOneOfFour σ x Q := by
  unfold m_X8_isOneOfFour
  exact ⟨fun _ => h, fun q1 => ⟨fun _ => h, fun q2 => absurd (lt4.mp ⟨q1, q2⟩) hx⟩⟩
theorem q_firstLetter {σ : St} {c g : Nat} {Q : Int32 → St → Prop} (hc : c < 256) (hg : sgn c = some g) (h : Q (nI (bas g)) σ) : m_X6_firstLetter σ (nI c) Q := by
  unfold m_X6_firstLetter
  rw [show (102 : Int32) = nI 102 from rfl, show (106 : Int32) = nI 106 from rfl, show (114 : Int32) = nI 114 from rfl, show (119 : Int32) = nI 119 from rfl, nI_eq' (by omega) (by omega), nI_eq' (by omega) (by omega), nI_eq' (by omega) (by omega), nI_eq' (by omega) (by omega)]
  have e := ltr_sgn hg
  have g7 := sgn_lt hg
  have : g = 0 ∨ g = 1 ∨ g = 2 ∨ g = 3 ∨ g = 4 ∨ g = 5 ∨ g = 6 := by omega
  rcases this with rfl | rfl | rfl | rfl | rfl | rfl | rfl <;> simp only [ltr] at e <;> subst e <;> refine ⟨fun q => ?_, fun q => ⟨fun q2 => ⟨fun q3 => ?_, fun q3 => ⟨fun q4 => ?_, fun q4 => ?_⟩⟩, fun q2 => ?_⟩⟩ <;> first | exact absurd q (by decide) | exact absurd rfl q | exact absurd q2 (by decide) | exact absurd rfl q2 | exact absurd q3 (by decide) | exact absurd rfl q3 | exact absurd q4 (by decide) | exact absurd rfl q4 | exact h
def TxtC (X : Nat → Nat) (n : Nat) (σ : St) : Prop := n ≤ 64 ∧ σ.1 1 0 = nI n ∧ ∀ i, i < n → σ.1 2 i = nI (X i) ∧ X i < 256
theorem TxtC.fr {Y : Nat → Nat} {n : Nat} {σ τ : St} {X : Nat → Nat → Bool} (h : TxtC Y n σ) (hf : fr X σ τ) (h1 : X 1 0 = false) (hX : ∀ i, X 2 i = false) : TxtC Y n τ := ⟨h.1, (hf.1 _ _ h1).trans h.2.1, fun i hi => ⟨(hf.1 _ _ (hX i)).trans (h.2.2 i hi).1, (h.2.2 i hi).2⟩⟩
theorem q_tellStep {b : Nat} {X : Nat → Nat} {n f k : Nat} {T : Tr} {R : Option Nat × Tr} {σ : St} {Q : Int32 → St → Prop} (hX : TxtC X n σ) (hR : RowOK b T σ) (hV : Val T) (hT : T.length ≤ 20) (hk : k < n) (hrd : rd X n (f + 1) k T = R)
    (hF : ∀ p, R = (some p, T) → Q (nI p) σ) (hG : ∀ s, Val (T ++ [s]) → T.length < 20 → rd X n f (k + 3) (T ++ [s]) = R → ∀ τ, RowOK b (T ++ [s]) τ → fr (XR b) σ τ → Q (-9) τ) : m_X6_tellStep b σ (nI k) Q := by
  have hn := hX.1
  have hXk := (hX.2.2 k hk).2
  have hW := hR.2.2.1
  have hsm : Wsm (wl T T.length) := Wsm_wl (fun k hk => (hV k hk).2.2.1) _ (Nat.le_refl _)
  unfold rd at hrd
  rw [if_neg (by omega)] at hrd
  unfold m_X6_tellStep
  refine ⟨vp_n (by omega) (by omega), bI_i ?_⟩
  try dsimp only
  rw [nI_cl (by omega), (hX.2.2 k hk).1, hR.1, show (20 : Int32) = nI 20 from rfl, nI_le' (by omega) (by omega), show (48 : Int32) = nI 48 from rfl]
  have bad1 : (T.length = 20 ∨ ¬ (48 ≤ X k ∧ X k < 52 ∧ wrun (wl T T.length) (X k - 48) = true)) → Q (nI k) σ := by
    intro hb
    rw [if_pos hb] at hrd
    exact hF k hrd.symm
  refine ⟨fun q => bad1 (Or.inl (by omega)), fun q4 => ?_⟩
  by_cases hr : 48 ≤ X k ∧ X k < 52
  rotate_left
  · exact q_lives_n ((sub_in hXk (by omega)).2 (by omega)) ⟨fun q => absurd rfl q, fun _ => bad1 (Or.inr (fun z => hr ⟨z.1, z.2.1⟩))⟩
  rw [(sub_in hXk (by omega)).1 hr.1]
  refine q_lives hW (by omega) ?_
  cases hrn : wrun (wl T T.length) (X k - 48)
  · exact ⟨fun q => absurd rfl q, fun _ => bad1 (Or.inr (fun z => by rw [hrn] at z; cases z.2.2))⟩
  refine ⟨fun _ => ?_, fun q => absurd q (by decide)⟩
  rw [if_neg (fun z => z.elim (fun z => by omega) (fun z => z ⟨hr.1, hr.2, hrn⟩))] at hrd
  rw [hX.2.1, nI_1, nI_lt' (by omega) (by omega)]
  refine ⟨fun q5 => ⟨vp_n (by omega) (by omega), bI_i ?_⟩, fun q5 => ?_⟩
  rotate_left
  · rw [if_pos (by omega)] at hrd
    have : n = k + 1 := by omega
    rw [this]
    exact hF _ hrd.symm
  rw [if_neg (by omega)] at hrd
  have hXk1 := (hX.2.2 (k + 1) (by omega)).2
  try dsimp only
  rw [nI_cl (by omega), (hX.2.2 (k + 1) (by omega)).1]
  refine q_choices hW hsm (by omega) hXk1 (fun g m hs hrun hm hbit => ?_) (fun z => ?_)
  rotate_left
  · refine ⟨fun q => absurd rfl q, fun _ => ?_⟩
    rcases z with z | z
    · rw [hrn] at z; cases z
    · rw [z] at hrd; exact hF _ hrd.symm
  have hg := sgn_lt hs
  rw [hs] at hrd
  dsimp only at hrd
  have anyz : m = 0 ↔ wany (wl T T.length) (X k - 48) g = false := by
    rw [sm_zero hm]
    unfold wany
    constructor
    · intro z
      rw [← hbit 0 (by omega), ← hbit 1 (by omega), ← hbit 2 (by omega), ← hbit 3 (by omega), z 0 (by omega), z 1 (by omega), z 2 (by omega), z 3 (by omega)]; rfl
    · intro z o ho
      rw [hbit o ho]
      simp only [Bool.or_eq_false_iff] at z
      have : o = 0 ∨ o = 1 ∨ o = 2 ∨ o = 3 := by omega
      rcases this with rfl | rfl | rfl | rfl
      · exact z.1.1.1
      · exact z.1.1.2
      · exact z.1.2
      · exact z.2
  refine ⟨fun hm0 => ?_, fun hm0 => ?_⟩
  rotate_left
  · rw [if_pos (anyz.mp hm0)] at hrd
    exact hF _ hrd.symm
  rw [if_neg (fun z => hm0 (anyz.mpr z))] at hrd
  rw [hX.2.1, show (2 : Int32) = nI 2 from rfl, nI_add, nI_lt' (by omega) (by omega)]
  refine ⟨fun q6 => ⟨vp_n (by omega) (by omega), ?_⟩, fun q6 => ?_⟩
  rotate_left
  · rw [if_pos (by omega)] at hrd
    have : n = k + 2 := by omega
    rw [this]
    exact hF _ hrd.symm
  rw [if_neg (by omega)] at hrd
  have hXk2 := (hX.2.2 (k + 2) (by omega)).2
  refine q_firstLetter hXk1 hs ?_
  refine bI_i ?_
  try dsimp only
  rw [nI_cl (by omega), (hX.2.2 (k + 2) (by omega)).1]
  have hbas : bas g < 256 := by unfold bas; split; omega; split <;> omega
  have bad3 : ¬ (bas g ≤ X (k + 2) ∧ X (k + 2) < bas g + 4 ∧ wmay (wl T T.length) (X k - 48) g (X (k + 2) - bas g) = true) → Q (nI (k + 2)) σ := by
    intro hb
    rw [if_neg hb] at hrd
    exact hF _ hrd.symm
  by_cases ho : bas g ≤ X (k + 2) ∧ X (k + 2) < bas g + 4
  rotate_left
  · exact q_one4n ((sub_in hXk2 hbas).2 ho) ⟨fun _ => bad3 (fun z => ho ⟨z.1, z.2.1⟩), fun q => absurd rfl q⟩
  rw [(sub_in hXk2 hbas).1 ho.1]
  refine q_one4 (by omega) ⟨fun q => absurd q (by decide), fun _ => ?_⟩
  refine q_pack (by omega) hXk1 (by omega) ?_
  have ecod : 16 * X (k + 1) + 4 * (X k - 48) + (X (k + 2) - bas g) = cod (X k - 48, g, X (k + 2) - bas g) := by
    unfold cod; rw [ltr_sgn hs]
  rw [ecod]
  refine q_put hR hV hT (by show X k - 48 < 4; omega) hg (by show X (k + 2) - bas g < 4; omega) (fun hl hV' τ hR' hf' _ => ⟨fun _ => ?_, fun q => absurd q (by decide)⟩) (fun hno => ⟨fun q => absurd rfl q, fun _ => ?_⟩)
  · have hmay : wmay (wl T T.length) (X k - 48) g (X (k + 2) - bas g) = true := by
      have := (hV' T.length (by simp)).2.2.2
      rw [th_last, sg_last, ab_last, wl_app T _ (Nat.le_refl _), okS, Bool.and_eq_true] at this
      exact this.2
    rw [if_pos ⟨ho.1, ho.2, hmay⟩] at hrd
    exact hG _ hV' hl hrd τ hR' hf'
  · refine bad3 (fun z => hno ⟨by omega, ?_⟩)
    exact Val_app hV (by show X k - 48 < 4; omega) hg (by show X (k + 2) - bas g < 4; omega) (by simp [okS, hrn, z.2.2])
theorem q_tell {b : Nat} {X : Nat → Nat} {n : Nat} {σ : St} {Q : Int32 → St → Prop} (hb : 2 < b) (hX : TxtC X n σ) (h : ∀ τ, RowOK b (rdt X n).2 τ → fr (XR b) σ τ → Q (fz (rdt X n).1) τ) : m_X6_tell b σ Q := by
  unfold m_X6_tell
  refine q_rbegin (fun σ1 r1 f1 c1 => ?_)
  have hX1 : TxtC X n σ1 := hX.fr f1 (XR_out (by omega)) (fun _ => XR_out (by omega))
  have hn := hX.1
  rw [hX1.2.1, show (0 : Int32) = nI 0 from rfl, nI_eq' (by omega) (by omega)]
  unfold rdt at h
  refine ⟨fun q => ?_, fun q => ?_⟩
  · rw [if_pos (Or.inl q)] at h; exact h σ1 r1 f1
  rw [show (nI 0).toNatClampNeg = 0 from cl0, (hX1.2.2 0 (by omega)).1, show (84 : Int32) = nI 84 from rfl, nI_eq' (by have := (hX1.2.2 0 (by omega)).2; omega) (by omega)]
  refine ⟨fun q2 => ?_, fun q2 => ?_⟩
  rotate_left
  · rw [if_pos (Or.inr q2)] at h; exact h σ1 r1 f1
  rw [if_neg (by simp [q, q2])] at h
  generalize hR0 : rd X n 21 1 [] = R0 at h
  refine lpE1 (m_X6_tell_L26b b Q (fun σ => m_X6_tell_J55 b Q σ)) (fun _ => rfl) (fun f τ x => ∃ k T, k ≤ 67 ∧ x = nI k ∧ n ≤ k + 3 * f ∧ fr (XR b) σ τ ∧ Val T ∧ T.length ≤ 20 ∧ RowOK b T τ ∧ rd X n f k T = R0) ?_ (n := 21) ⟨1, [], by omega, rfl, by omega, f1, Val_nil, by simp, r1, hR0⟩
  rintro f τ x Rc ⟨k, T, hk, rfl, hfu, hf, hV, hT, hR, hrd⟩ hRc
  have hX' : TxtC X n τ := hX.fr hf (XR_out (by omega)) (fun _ => XR_out (by omega))
  unfold m_X6_tell_L26b
  rw [hX'.2.1, nI_le' (by omega) (by omega)]
  refine ⟨fun q3 => ?_, fun q3 => ?_⟩
  · have e : rd X n f k T = (none, T) := by
      cases f with
      | zero => rfl
      | succ f => unfold rd; rw [if_pos q3]
    rw [← hrd, e] at h
    exact h τ hR hf
  cases f with
  | zero => omega
  | succ f =>
  refine q_tellStep hX' hR hV hT (by omega) hrd (fun p hp => ⟨fun z => ?_, fun _ => ?_⟩) (fun s hVs hls hrd2 υ hRu hfu2 => ⟨fun _ => ?_, fun z => absurd rfl z⟩)
  · exfalso
    have hp7 : p < 100 := by
      have : ∀ (f k : Nat) (T : Tr) (p : Nat) (U : Tr), k ≤ n → rd X n f k T = (some p, U) → p ≤ n + 2 := by
        intro f
        induction f with
        | zero => intro k T p U hk e; unfold rd at e; cases e
        | succ f ih =>
          intro k T p U hk e
          unfold rd at e
          split at e
          · cases e
          split at e
          · injection e with e1 e2; injection e1 with e1; omega
          split at e
          · injection e with e1 e2; injection e1 with e1; omega
          split at e
          · injection e with e1 e2; injection e1 with e1; omega
          split at e
          · injection e with e1 e2; injection e1 with e1; omega
          split at e
          · injection e with e1 e2; injection e1 with e1; omega
          split at e
          · exact ih _ _ _ _ (by omega) e
          · injection e with e1 e2; injection e1 with e1; omega
      have := this (f + 1) k T p T (by omega) (hrd.trans hp)
      omega
    exact ne9 p (by omega) z
  · rw [hp] at h
    exact h τ hR hf
  · have e3 : nI k + 3 = nI (k + 3) := by rw [show (3 : Int32) = nI 3 from rfl, nI_add]
    rw [e3]
    refine hRc f _ _ (by omega) ⟨k + 3, _, by omega, rfl, by omega, fr_tr hf hfu2, hVs, ?_, hRu, hrd2⟩
    rw [List.length_append, List.length_singleton]; omega
