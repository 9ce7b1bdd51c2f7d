/-! ===== the text, letter by letter ===== -/
def sgn (c : Nat) : Option Nat := if c = 108 then some 0 else if c = 115 then some 1 else if c = 117 then some 2 else if c = 114 then some 3 else if c = 119 then some 4 else if c = 102 then some 5 else if c = 106 then some 6 else none
def bas (g : Nat) : Nat := if g < 3 then 65 else if g < 5 then 97 else 48
theorem sgn_lt {c g : Nat} (h : sgn c = some g) : g < 7 := by
  unfold sgn at h
  repeat' split at h
  all_goals first | (cases h; done) | (injection h with h; omega)
def rd (X : Nat → Nat) (n : Nat) : Nat → Nat → Tr → Option Nat × Tr
  | 0, _, T => (none, T)
  | f + 1, k, T =>
    if n ≤ k then (none, T)
    else if T.length = 20 ∨ ¬ (48 ≤ X k ∧ X k < 52 ∧ wrun (wl T T.length) (X k - 48) = true) then (some k, T)
    else if n ≤ k + 1 then (some (k + 1), T)
    else match sgn (X (k + 1)) with
      | none => (some (k + 1), T)
      | some g =>
        if wany (wl T T.length) (X k - 48) g = false then (some (k + 1), T)
        else if n ≤ k + 2 then (some (k + 2), T)
        else if bas g ≤ X (k + 2) ∧ X (k + 2) < bas g + 4 ∧ wmay (wl T T.length) (X k - 48) g (X (k + 2) - bas g) = true then rd X n f (k + 3) (T ++ [(X k - 48, g, X (k + 2) - bas g)])
        else (some (k + 2), T)
def rdt (X : Nat → Nat) (n : Nat) : Option Nat × Tr := if n = 0 ∨ X 0 ≠ 84 then (some 0, []) else rd X n 21 1 []
def fz : Option Nat → Int32
  | none => -9
  | some p => nI p
theorem rd_ok (X : Nat → Nat) (n : Nat) : ∀ (f k : Nat) (T : Tr), Val T → T.length ≤ 20 → Val (rd X n f k T).2 ∧ (rd X n f k T).2.length ≤ 20
  | 0, _, T, hv, hl => ⟨hv, hl⟩
  | f + 1, k, T, hv, hl => by
    unfold rd
    split
    · exact ⟨hv, hl⟩
    split
    · exact ⟨hv, hl⟩
    rename_i h1
    split
    · exact ⟨hv, hl⟩
    split
    · exact ⟨hv, hl⟩
    rename_i g hg
    split
    · exact ⟨hv, hl⟩
    split
    · exact ⟨hv, hl⟩
    split
    · rename_i h2
      have h1' : T.length ≠ 20 ∧ 48 ≤ X k ∧ X k < 52 ∧ wrun (wl T T.length) (X k - 48) = true := by
        constructor
        · intro q; exact h1 (Or.inl q)
        · exact Classical.byContradiction (fun q => h1 (Or.inr q))
      refine rd_ok X n f (k + 3) _ (Val_app hv (by show X k - 48 < 4; omega) (sgn_lt hg) (by show X (k + 2) - bas g < 4; omega) ?_) ?_
      · simp [okS, h1'.2.2.2, h2.2.2]
      · rw [List.length_append, List.length_singleton]; omega
    · exact ⟨hv, hl⟩
theorem Val_nil : Val [] := fun k hk => by simp at hk
theorem rdt_ok (X : Nat → Nat) (n : Nat) : Val (rdt X n).2 ∧ (rdt X n).2.length ≤ 20 := by
  unfold rdt
  split
  · exact ⟨Val_nil, by simp⟩
  · exact rd_ok X n 21 1 [] Val_nil (by simp)
def TxtM (X : Nat → Nat) (n : Nat) (σ : St) : Prop := n ≤ 64 ∧ σ.1 61 6 = nI n ∧ ∀ i, i < n → σ.1 65 i = nI (X i) ∧ X i < 256
theorem TxtM.fr {Y : Nat → Nat} {n : Nat} {σ τ : St} {X : Nat → Nat → Bool} (h : TxtM Y n σ) (hf : fr X σ τ) (h1 : X 61 6 = false) (hX : ∀ i, X 65 i = false) : TxtM Y n τ := ⟨h.1, (hf.1 _ _ h1).trans h.2.1, fun i hi => ⟨(hf.1 _ _ (hX i)).trans (h.2.2 i hi).1, (h.2.2 i hi).2⟩⟩
theorem p_signOf {σ : St} {c : Nat} {Q : Int32 → St → Prop} (hc : c < 256) (h : Q (fz (sgn c)) σ) : m_X9_signOf σ (nI c) Q := by
  unfold m_X9_signOf
  rw [show (102 : Int32) = nI 102 from rfl, show (106 : Int32) = nI 106 from rfl, show (108 : Int32) = nI 108 from rfl, show (114 : Int32) = nI 114 from rfl, show (115 : Int32) = nI 115 from rfl, show (117 : Int32) = nI 117 from rfl, show (119 : Int32) = nI 119 from rfl]
  rw [nI_eq' (by omega) (by omega), nI_eq' (by omega) (by omega), nI_eq' (by omega) (by omega), nI_eq' (by omega) (by omega), nI_eq' (by omega) (by omega), nI_eq' (by omega) (by omega), nI_eq' (by omega) (by omega)]
  refine ⟨fun q => ?_, fun q => ?_, fun q => ?_, fun q => ?_, fun q => ?_, fun q => ?_, fun q => ?_, fun q => ?_⟩
  all_goals first | (subst q; exact h) | skip
  obtain ⟨q1, q2, q3, q4, q5, q6, q7⟩ := q
  have : sgn c = none := by simp [sgn, q1, q2, q3, q4, q5, q6, q7]
  rw [this] at h
  exact h
/-- a letter less a base: one of 0 to 3, or not -/
theorem sub_in {c b : Nat} (hc : c < 256) (hb : b < 256) : (b ≤ c → nI c - nI b = nI (c - b)) ∧ (¬ (b ≤ c ∧ c < b + 4) → ¬ (0 ≤ nI c - nI b ∧ nI c - nI b ≤ 3)) := by
  refine ⟨fun h => pk_sub h, fun h q => ?_⟩
  have e := pk_sub_toInt (a := c) (b := b) (by omega) (by omega)
  have e0 : (0 : Int32).toInt = 0 := by decide
  have e3 : (3 : Int32).toInt = 3 := by decide
  rw [Int32.le_iff_toInt_le, Int32.le_iff_toInt_le] at q
  omega
theorem p_aboutBy {σ : St} {g c : Nat} {Q : Int32 → St → Prop} (hg : g < 7) (h : Q (nI c - nI (bas g)) σ) : m_X9_aboutBy σ (nI g) (nI c) Q := by
  unfold m_X9_aboutBy
  unfold bas at h
  rw [show (3 : Int32) = nI 3 from rfl, show (5 : Int32) = nI 5 from rfl, nI_le' (by omega) (by omega), nI_le' (by omega) (by omega)]
  refine ⟨fun q => ⟨fun q2 => ?_, fun q2 => ?_⟩, fun q => ?_⟩
  · rw [if_neg (by omega), if_neg (by omega)] at h; exact h
  · rw [if_neg (by omega), if_pos (by omega)] at h; exact h
  · rw [if_pos (by omega)] at h; exact h
def Xrt (c i : Nat) : Bool := c == 66 || c == 62 || c == 63 || (c == 61 && (i == 2 || i == 3))
theorem Xw_rt : ∀ c i, Xrt c i = false → Xw c i = false := by
  intro c i h
  simp only [Xrt, Xw, Bool.or_eq_false_iff] at h ⊢
  exact ⟨⟨h.1.1.2, h.1.2⟩, h.2⟩
theorem EncAt.push {c b : Nat} {T : Tr} {s : Tp} {σ : St} (h : EncAt c b T σ) : EncAt c b (T ++ [s]) (sI (sI σ c b (nI (T.length + 1))) c (b + 1 + T.length) (nI (100 * s.1 + 10 * s.2.1 + s.2.2))) := by
  refine ⟨?_, fun k hk => ?_⟩
  · rw [sI_out _ _ (by omega), sI_in, List.length_append, List.length_singleton]
  · rw [List.length_append, List.length_singleton] at hk
    by_cases e : k = T.length
    · subst e
      rw [sI_in]; unfold nw; rw [th_last, sg_last, ab_last]
    · rw [sI_out _ _ (by omega), sI_out _ _ (by omega), h.2 k (by omega)]
      unfold nw
      rw [th_app _ _ (by omega), sg_app _ _ (by omega), ab_app _ _ (by omega)]
theorem ne9 (n : Nat) (h : n < 2147483648) : ¬ nI n = -9 := by
  intro q
  have := congrArg Int32.toInt q
  rw [nI_toInt h] at this
  have e : (-9 : Int32).toInt = -9 := by decide
  omega
theorem p_readText {σ : St} {X : Nat → Nat} {n : Nat} {Q : Int32 → St → Prop} (hX : TxtM X n σ) (h : ∀ τ, EncAt 66 0 (rdt X n).2 τ → fr Xrt σ τ → Q (fz (rdt X n).1) τ) : m_X9_readText σ Q := by
  unfold m_X9_readText
  refine ⟨vp_n (n := 0) (by omega) (by omega), ?_⟩
  unfold sIB
  rw [cl0]
  refine p_begin (fun σ1 hW hf => ?_)
  have hf0 : fr Xrt σ (sI σ 66 0 0) := fr_sI fr_rfl _ rfl
  have hf1 : fr Xrt σ σ1 := fr_tr hf0 (fr_mono hf Xw_rt)
  have hX1 : TxtM X n σ1 := hX.fr hf1 rfl (fun _ => rfl)
  have hE1 : EncAt 66 0 [] σ1 := by
    refine ⟨?_, fun k hk => by simp at hk⟩
    rw [hf.1 66 0 rfl, sI_in]; rfl
  obtain ⟨hn, hlen, hlet⟩ := hX
  rw [hX1.2.1, show (0 : Int32) = nI 0 from rfl, nI_eq' (by omega) (by omega)]
  unfold rdt at h
  refine ⟨fun q => ?_, fun q => ?_⟩
  · rw [if_pos (Or.inl q)] at h; exact h σ1 hE1 hf1
  rw [(hX1.2.2 0 (by omega)).1, show (84 : Int32) = nI 84 from rfl, nI_eq' (by have := (hX1.2.2 0 (by omega)).2; omega) (by omega)]
  refine ⟨fun q2 => ?_, fun q2 => ?_⟩
  rotate_left
  · rw [if_pos (Or.inr q2)] at h; exact h σ1 hE1 hf1
  rw [if_neg (by simp [q, q2])] at h
  generalize hR0 : rd X n 21 1 [] = R0 at h
  refine lpE1 (m_X9_readText_L33b Q (fun σ x1 => m_X9_readText_J70 Q σ x1) (fun σ x1 => m_X9_readText_J114 Q σ x1) (fun σ x1 => m_X9_readText_J158 Q σ x1) (fun σ => m_X9_readText_J209 Q σ)) (fun _ => rfl) (fun f τ x => ∃ k T, k ≤ 67 ∧ x = nI k ∧ n ≤ k + 3 * f ∧ fr Xrt σ τ ∧ Val T ∧ T.length ≤ 20 ∧ EncAt 66 0 T τ ∧ WM τ (wl T T.length) ∧ rd X n f k T = R0) ?_ (n := 21) ⟨1, [], by omega, rfl, by omega, hf1, Val_nil, by simp, hE1, hW, hR0⟩
  rintro f τ x Rc ⟨k, T, hk, rfl, hfu, hf, hV, hT, hE, hW, hrd⟩ hR
  have hX' : TxtM X n τ := TxtM.fr ⟨hn, hlen, hlet⟩ hf rfl (fun _ => rfl)
  unfold m_X9_readText_L33b bI
  dsimp only
  rw [hX'.2.1, cl0, hE.1, nI_le' (by omega) (by omega)]
  refine ⟨fun q3 => ?_, fun q3 => ⟨vp_n (by omega) (by omega), ?_⟩⟩
  · have e : rd X n f k T = (none, T) := by
      cases f with
      | zero => rfl
      | succ f => unfold rd; rw [if_pos q3]
    rw [← hrd, e] at h
    exact h τ hE hf
  cases f with
  | zero => omega
  | succ f =>
  have hXk := (hX'.2.2 k (by omega)).2
  rw [nI_cl (by omega), (hX'.2.2 k (by omega)).1, show (20 : Int32) = nI 20 from rfl, nI_eq' (by omega) (by omega), show (48 : Int32) = nI 48 from rfl]
  unfold rd at hrd
  rw [if_neg q3] at hrd
  have bad1 : (T.length = 20 ∨ ¬ (48 ≤ X k ∧ X k < 52 ∧ wrun (wl T T.length) (X k - 48) = true)) → ∀ υ, EncAt 66 0 T υ → fr Xrt σ υ → Q (nI k) υ := by
    intro hb υ hEu hfu
    rw [if_pos hb] at hrd
    rw [← hrd] at h
    exact h υ hEu hfu
  refine ⟨fun q4 => bad1 (Or.inl q4) τ hE hf, fun q4 => ?_⟩
  by_cases hr : 48 ≤ X k ∧ X k < 52
  rotate_left
  · exact p_isRunning_n ((sub_in hXk (by omega)).2 (by omega)) ⟨fun q => absurd rfl q, fun _ => bad1 (Or.inr (fun z => hr ⟨z.1, z.2.1⟩)) τ hE hf⟩
  rw [(sub_in hXk (by omega)).1 hr.1]
  refine p_isRunning hW (by omega) ?_
  cases hrn : wrun (wl T T.length) (X k - 48)
  · exact ⟨fun q => absurd rfl q, fun _ => bad1 (Or.inr (fun z => by rw [hrn] at z; cases z.2.2)) τ hE hf⟩
  refine ⟨fun _ => ?_, fun q => absurd q (by decide)⟩
  rw [if_neg (fun z => z.elim q4 (fun z => z ⟨hr.1, hr.2, hrn⟩))] at hrd
  rw [hX'.2.1, nI_1, nI_le' (by omega) (by omega)]
  refine ⟨fun q5 => ?_, fun q5 => ⟨vp_n (by omega) (by omega), ?_⟩⟩
  · rw [if_pos q5] at hrd
    rw [← hrd] at h
    unfold m_X9_readText_J98
    refine ⟨fun _ => ?_, fun q => absurd rfl q⟩
    show Q (nI k + 1) τ
    rw [nI_1]
    exact h τ hE hf
  rw [if_neg q5] at hrd
  have hXk1 := (hX'.2.2 (k + 1) (by omega)).2
  rw [nI_cl (by omega), (hX'.2.2 (k + 1) (by omega)).1]
  refine p_signOf hXk1 ?_
  unfold m_X9_readText_J98
  cases hs : sgn (X (k + 1)) with
  | none =>
    rw [hs] at hrd
    rw [← hrd] at h
    refine ⟨fun _ => ?_, fun q => absurd rfl q⟩
    show Q (nI k + 1) τ
    rw [nI_1]
    exact h τ hE hf
  | some g =>
  rw [hs] at hrd
  have hg := sgn_lt hs
  refine ⟨fun q => absurd q (ne9 g (by omega)), fun _ => ?_⟩
  show m_X9_mayAny τ (nI (X k - 48)) (nI g) _
  refine p_mayAny hW (by omega) hg ?_
  cases hany : wany (wl T T.length) (X k - 48) g
  · refine ⟨fun q => absurd rfl q, fun _ => ?_⟩
    dsimp only at hrd
    rw [if_pos hany] at hrd
    rw [← hrd] at h
    show Q (nI k + 1) τ
    rw [nI_1]
    exact h τ hE hf
  refine ⟨fun _ => ?_, fun q => absurd q (by decide)⟩
  dsimp only at hrd
  rw [if_neg (by rw [hany]; decide)] at hrd
  rw [hX'.2.1, show (2 : Int32) = nI 2 from rfl, nI_add, nI_le' (by omega) (by omega)]
  refine ⟨fun q6 => ?_, fun q6 => ⟨vp_n (by omega) (by omega), ?_⟩⟩
  · rw [if_pos q6] at hrd
    rw [← hrd] at h
    unfold m_X9_readText_J145
    refine p_mayBe_n (by decide) ⟨fun q => absurd rfl q, fun _ => ?_⟩
    show Q (nI k + 2) τ
    rw [show (2 : Int32) = nI 2 from rfl, nI_add]
    exact h τ hE hf
  rw [if_neg q6] at hrd
  have hXk2 := (hX'.2.2 (k + 2) (by omega)).2
  rw [nI_cl (by omega), (hX'.2.2 (k + 2) (by omega)).1]
  refine p_aboutBy hg ?_
  unfold m_X9_readText_J145
  have hbas : bas g < 256 := by unfold bas; split; omega; split <;> omega
  have bad3 : ¬ (bas g ≤ X (k + 2) ∧ X (k + 2) < bas g + 4 ∧ wmay (wl T T.length) (X k - 48) g (X (k + 2) - bas g) = true) → Q (nI (k + 2)) τ := by
    intro hb
    rw [if_neg hb] at hrd
    rw [← hrd] at h
    exact h τ hE hf
  by_cases ho : bas g ≤ X (k + 2) ∧ X (k + 2) < bas g + 4
  rotate_left
  · refine p_mayBe_n ((sub_in hXk2 hbas).2 ho) ⟨fun q => absurd rfl q, fun _ => ?_⟩
    show Q (nI k + 2) τ
    rw [show (2 : Int32) = nI 2 from rfl, nI_add]
    exact bad3 (fun z => ho ⟨z.1, z.2.1⟩)
  rw [(sub_in hXk2 hbas).1 ho.1]
  refine p_mayBe hW (by omega) hg (by omega) ?_
  cases hm : wmay (wl T T.length) (X k - 48) g (X (k + 2) - bas g)
  · refine ⟨fun q => absurd rfl q, fun _ => ?_⟩
    show Q (nI k + 2) τ
    rw [show (2 : Int32) = nI 2 from rfl, nI_add]
    exact bad3 (fun z => by rw [hm] at z; cases z.2.2)
  refine ⟨fun _ => ?_, fun q => absurd q (by decide)⟩
  rw [if_pos ⟨ho.1, ho.2, hm⟩] at hrd
  refine p_go hW (by omega) hg (fun υ hW2 hf2 => ?_)
  refine ⟨vp_n (n := 0) (by omega) (by omega), ?_⟩
  unfold sIB
  dsimp only [fz]
  rw [cl0, hf2.1 66 0 rfl, hE.1, sI_in, nI_1, nI_cl (by omega)]
  refine ⟨vp_n (by omega) (by omega), ?_⟩
  have hEu : EncAt 66 0 T υ := hE.fr hT hf2 (fun _ _ _ => rfl)
  have hpush := hEu.push (s := (X k - 48, g, X (k + 2) - bas g))
  have e100 : ((100 : Int32) * nI (X k - 48) + 10 * nI g) + nI (X (k + 2) - bas g) = nI (100 * (X k - 48) + 10 * g + (X (k + 2) - bas g)) := by
    rw [show (100 : Int32) = nI 100 from rfl, show (10 : Int32) = nI 10 from rfl, pk_mul, pk_mul, nI_add, nI_add]
  have e3 : nI k + 3 = nI (k + 3) := by rw [show (3 : Int32) = nI 3 from rfl, nI_add]
  rw [e100, e3]
  rw [Nat.zero_add, Nat.add_comm 1 T.length] at hpush
  have hfin : fr Xrt σ (sI (sI υ 66 0 (nI (T.length + 1))) 66 (T.length + 1) (nI (100 * (X k - 48) + 10 * g + (X (k + 2) - bas g)))) := fr_sI (fr_sI (fr_tr hf (fr_mono hf2 Xw_rt)) _ rfl) _ rfl
  refine hR f _ _ (by omega) ⟨k + 3, T ++ [(X k - 48, g, X (k + 2) - bas g)], by omega, rfl, by omega, hfin, ?_, ?_, hpush, ?_, hrd⟩
  · exact Val_app hV (by show X k - 48 < 4; omega) hg (by show X (k + 2) - bas g < 4; omega) (by simp [okS, hrn, hm])
  · rw [List.length_append, List.length_singleton]; omega
  · have ew : wl (T ++ [(X k - 48, g, X (k + 2) - bas g)]) (T ++ [(X k - 48, g, X (k + 2) - bas g)]).length = wgo (wl T T.length) (X k - 48) g (X (k + 2) - bas g) := by
      rw [List.length_append, List.length_singleton]
      show wgo (wl (T ++ _) T.length) _ _ _ = _
      rw [wl_app T _ (Nat.le_refl _), th_last, sg_last, ab_last]
    rw [ew]
    refine ⟨fun t ht => ?_, fun t ht => ?_, ?_, ?_⟩
    · rw [sI_out _ _ (by omega), sI_out _ _ (by omega)]; exact hW2.1 t ht
    · rw [sI_out _ _ (by omega), sI_out _ _ (by omega)]; exact hW2.2.1 t ht
    · rw [sI_out _ _ (by omega), sI_out _ _ (by omega)]; exact hW2.2.2.1
    · rw [sI_out _ _ (by omega), sI_out _ _ (by omega)]; exact hW2.2.2.2
